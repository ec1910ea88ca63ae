theorem dX12_init_0 : decode cX12_init 0 = .ok (.aload_n 0, 1) := by decide +kernel
theorem dX12_init_1 : decode cX12_init 1 = .ok (.invokespecial 1, 3) := by decide +kernel
theorem dX12_init_4 : decode cX12_init 4 = .ok (.aload_n 0, 1) := by decide +kernel
theorem dX12_init_5 : decode cX12_init 5 = .ok (.sipush 900, 3) := by decide +kernel
theorem dX12_init_8 : decode cX12_init 8 = .ok (.newarray .int, 2) := by decide +kernel
theorem dX12_init_10 : decode cX12_init 10 = .ok (.putfield 7, 3) := by decide +kernel
theorem dX12_init_13 : decode cX12_init 13 = .ok (.aload_n 0, 1) := by decide +kernel
theorem dX12_init_14 : decode cX12_init 14 = .ok (.iconst (-1), 1) := by decide +kernel
theorem dX12_init_15 : decode cX12_init 15 = .ok (.putfield 13, 3) := by decide +kernel
theorem dX12_init_18 : decode cX12_init 18 = .ok (.aload_n 0, 1) := by decide +kernel
theorem dX12_init_19 : decode cX12_init 19 = .ok (.bipush 8, 2) := by decide +kernel
theorem dX12_init_21 : decode cX12_init 21 = .ok (.newarray .int, 2) := by decide +kernel
theorem dX12_init_23 : decode cX12_init 23 = .ok (.putfield 17, 3) := by decide +kernel
theorem dX12_init_26 : decode cX12_init 26 = .ok (.aload_n 0, 1) := by decide +kernel
theorem dX12_init_27 : decode cX12_init 27 = .ok (.bipush 100, 2) := by decide +kernel
theorem dX12_init_29 : decode cX12_init 29 = .ok (.newarray .int, 2) := by decide +kernel
theorem dX12_init_31 : decode cX12_init 31 = .ok (.putfield 20, 3) := by decide +kernel
theorem dX12_init_34 : decode cX12_init 34 = .ok (.aload_n 0, 1) := by decide +kernel
theorem dX12_init_35 : decode cX12_init 35 = .ok (.bipush 100, 2) := by decide +kernel
theorem dX12_init_37 : decode cX12_init 37 = .ok (.newarray .int, 2) := by decide +kernel
theorem dX12_init_39 : decode cX12_init 39 = .ok (.putfield 23, 3) := by decide +kernel
theorem dX12_init_42 : decode cX12_init 42 = .ok (.aload_n 0, 1) := by decide +kernel
theorem dX12_init_43 : decode cX12_init 43 = .ok (.bipush 16, 2) := by decide +kernel
theorem dX12_init_45 : decode cX12_init 45 = .ok (.newarray .int, 2) := by decide +kernel
theorem dX12_init_47 : decode cX12_init 47 = .ok (.putfield 26, 3) := by decide +kernel
theorem dX12_init_50 : decode cX12_init 50 = .ok (.aload_n 0, 1) := by decide +kernel
theorem dX12_init_51 : decode cX12_init 51 = .ok (.bipush 16, 2) := by decide +kernel
theorem dX12_init_53 : decode cX12_init 53 = .ok (.newarray .int, 2) := by decide +kernel
theorem dX12_init_55 : decode cX12_init 55 = .ok (.putfield 29, 3) := by decide +kernel
theorem dX12_init_58 : decode cX12_init 58 = .ok (.aload_n 0, 1) := by decide +kernel
theorem dX12_init_59 : decode cX12_init 59 = .ok (.sipush 256, 3) := by decide +kernel
theorem dX12_init_62 : decode cX12_init 62 = .ok (.newarray .int, 2) := by decide +kernel
theorem dX12_init_64 : decode cX12_init 64 = .ok (.putfield 32, 3) := by decide +kernel
theorem dX12_init_67 : decode cX12_init 67 = .ok (.aload_n 0, 1) := by decide +kernel
theorem dX12_init_68 : decode cX12_init 68 = .ok (.bipush 48, 2) := by decide +kernel
theorem dX12_init_70 : decode cX12_init 70 = .ok (.newarray .int, 2) := by decide +kernel
theorem dX12_init_72 : decode cX12_init 72 = .ok (.putfield 35, 3) := by decide +kernel
theorem dX12_init_75 : decode cX12_init 75 = .ok (.aload_n 0, 1) := by decide +kernel
theorem dX12_init_76 : decode cX12_init 76 = .ok (.sipush 224, 3) := by decide +kernel
theorem dX12_init_79 : decode cX12_init 79 = .ok (.newarray .int, 2) := by decide +kernel
theorem dX12_init_81 : decode cX12_init 81 = .ok (.putfield 38, 3) := by decide +kernel
theorem dX12_init_84 : decode cX12_init 84 = .ok (.aload_n 0, 1) := by decide +kernel
theorem dX12_init_85 : decode cX12_init 85 = .ok (.sipush 224, 3) := by decide +kernel
theorem dX12_init_88 : decode cX12_init 88 = .ok (.newarray .int, 2) := by decide +kernel
theorem dX12_init_90 : decode cX12_init 90 = .ok (.putfield 41, 3) := by decide +kernel
theorem dX12_init_93 : decode cX12_init 93 = .ok (.aload_n 0, 1) := by decide +kernel
theorem dX12_init_94 : decode cX12_init 94 = .ok (.sipush 224, 3) := by decide +kernel
theorem dX12_init_97 : decode cX12_init 97 = .ok (.newarray .int, 2) := by decide +kernel
theorem dX12_init_99 : decode cX12_init 99 = .ok (.putfield 44, 3) := by decide +kernel
theorem dX12_init_102 : decode cX12_init 102 = .ok (.aload_n 0, 1) := by decide +kernel
theorem dX12_init_103 : decode cX12_init 103 = .ok (.sipush 224, 3) := by decide +kernel
theorem dX12_init_106 : decode cX12_init 106 = .ok (.newarray .int, 2) := by decide +kernel
theorem dX12_init_108 : decode cX12_init 108 = .ok (.putfield 47, 3) := by decide +kernel
theorem dX12_init_111 : decode cX12_init 111 = .ok (.aload_n 0, 1) := by decide +kernel
theorem dX12_init_112 : decode cX12_init 112 = .ok (.sipush 224, 3) := by decide +kernel
theorem dX12_init_115 : decode cX12_init 115 = .ok (.newarray .int, 2) := by decide +kernel
theorem dX12_init_117 : decode cX12_init 117 = .ok (.putfield 50, 3) := by decide +kernel
theorem dX12_init_120 : decode cX12_init 120 = .ok (.aload_n 0, 1) := by decide +kernel
theorem dX12_init_121 : decode cX12_init 121 = .ok (.sipush 224, 3) := by decide +kernel
theorem dX12_init_124 : decode cX12_init 124 = .ok (.newarray .int, 2) := by decide +kernel
theorem dX12_init_126 : decode cX12_init 126 = .ok (.putfield 53, 3) := by decide +kernel
theorem dX12_init_129 : decode cX12_init 129 = .ok (.aload_n 0, 1) := by decide +kernel
theorem dX12_init_130 : decode cX12_init 130 = .ok (.sipush 224, 3) := by decide +kernel
theorem dX12_init_133 : decode cX12_init 133 = .ok (.newarray .int, 2) := by decide +kernel
theorem dX12_init_135 : decode cX12_init 135 = .ok (.putfield 56, 3) := by decide +kernel
theorem dX12_init_138 : decode cX12_init 138 = .ok (.aload_n 0, 1) := by decide +kernel
theorem dX12_init_139 : decode cX12_init 139 = .ok (.ldc 59, 2) := by decide +kernel
theorem dX12_init_141 : decode cX12_init 141 = .ok (.newarray .int, 2) := by decide +kernel
theorem dX12_init_143 : decode cX12_init 143 = .ok (.putfield 60, 3) := by decide +kernel
theorem dX12_init_146 : decode cX12_init 146 = .ok (.aload_n 0, 1) := by decide +kernel
theorem dX12_init_147 : decode cX12_init 147 = .ok (.ldc 59, 2) := by decide +kernel
theorem dX12_init_149 : decode cX12_init 149 = .ok (.newarray .int, 2) := by decide +kernel
theorem dX12_init_151 : decode cX12_init 151 = .ok (.putfield 63, 3) := by decide +kernel
theorem dX12_init_154 : decode cX12_init 154 = .ok (.aload_n 0, 1) := by decide +kernel
theorem dX12_init_155 : decode cX12_init 155 = .ok (.ldc 59, 2) := by decide +kernel
theorem dX12_init_157 : decode cX12_init 157 = .ok (.newarray .int, 2) := by decide +kernel
theorem dX12_init_159 : decode cX12_init 159 = .ok (.putfield 66, 3) := by decide +kernel
theorem dX12_init_162 : decode cX12_init 162 = .ok (.aload_n 0, 1) := by decide +kernel
theorem dX12_init_163 : decode cX12_init 163 = .ok (.ldc 59, 2) := by decide +kernel
theorem dX12_init_165 : decode cX12_init 165 = .ok (.newarray .int, 2) := by decide +kernel
theorem dX12_init_167 : decode cX12_init 167 = .ok (.putfield 69, 3) := by decide +kernel
theorem dX12_init_170 : decode cX12_init 170 = .ok (.aload_n 0, 1) := by decide +kernel
theorem dX12_init_171 : decode cX12_init 171 = .ok (.ldc 59, 2) := by decide +kernel
theorem dX12_init_173 : decode cX12_init 173 = .ok (.newarray .int, 2) := by decide +kernel
theorem dX12_init_175 : decode cX12_init 175 = .ok (.putfield 72, 3) := by decide +kernel
theorem dX12_init_178 : decode cX12_init 178 = .ok (.aload_n 0, 1) := by decide +kernel
theorem dX12_init_179 : decode cX12_init 179 = .ok (.ldc 59, 2) := by decide +kernel
theorem dX12_init_181 : decode cX12_init 181 = .ok (.newarray .int, 2) := by decide +kernel
theorem dX12_init_183 : decode cX12_init 183 = .ok (.putfield 75, 3) := by decide +kernel
theorem dX12_init_186 : decode cX12_init 186 = .ok (.aload_n 0, 1) := by decide +kernel
theorem dX12_init_187 : decode cX12_init 187 = .ok (.ldc 59, 2) := by decide +kernel
theorem dX12_init_189 : decode cX12_init 189 = .ok (.newarray .long, 2) := by decide +kernel
theorem dX12_init_191 : decode cX12_init 191 = .ok (.putfield 78, 3) := by decide +kernel
theorem dX12_init_194 : decode cX12_init 194 = .ok (.aload_n 0, 1) := by decide +kernel
theorem dX12_init_195 : decode cX12_init 195 = .ok (.sipush 201, 3) := by decide +kernel
theorem dX12_init_198 : decode cX12_init 198 = .ok (.newarray .int, 2) := by decide +kernel
theorem dX12_init_200 : decode cX12_init 200 = .ok (.putfield 82, 3) := by decide +kernel
theorem dX12_init_203 : decode cX12_init 203 = .ok (.return_, 1) := by decide +kernel
theorem dX12_thrown_0 : decode cX12_thrown 0 = .ok (.aload_n 0, 1) := by decide +kernel
theorem dX12_thrown_1 : decode cX12_thrown 1 = .ok (.getfield 85, 3) := by decide +kernel
theorem dX12_thrown_4 : decode cX12_thrown 4 = .ok (.ireturn, 1) := by decide +kernel
theorem dX12_clear_0 : decode cX12_clear 0 = .ok (.aload_n 0, 1) := by decide +kernel
theorem dX12_clear_1 : decode cX12_clear 1 = .ok (.iconst 0, 1) := by decide +kernel
theorem dX12_clear_2 : decode cX12_clear 2 = .ok (.putfield 85, 3) := by decide +kernel
theorem dX12_clear_5 : decode cX12_clear 5 = .ok (.aload_n 0, 1) := by decide +kernel
theorem dX12_clear_6 : decode cX12_clear 6 = .ok (.iconst 0, 1) := by decide +kernel
theorem dX12_clear_7 : decode cX12_clear 7 = .ok (.putfield 88, 3) := by decide +kernel
theorem dX12_clear_10 : decode cX12_clear 10 = .ok (.return_, 1) := by decide +kernel
theorem dX12_no_0 : decode cX12_no 0 = .ok (.aload_n 0, 1) := by decide +kernel
theorem dX12_no_1 : decode cX12_no 1 = .ok (.iload_n 1, 1) := by decide +kernel
theorem dX12_no_2 : decode cX12_no 2 = .ok (.putfield 88, 3) := by decide +kernel
theorem dX12_no_5 : decode cX12_no 5 = .ok (.iconst (-1), 1) := by decide +kernel
theorem dX12_no_6 : decode cX12_no 6 = .ok (.ireturn, 1) := by decide +kernel
theorem dX12_isNot_0 : decode cX12_isNot 0 = .ok (.aload_n 0, 1) := by decide +kernel
theorem dX12_isNot_1 : decode cX12_isNot 1 = .ok (.iload_n 1, 1) := by decide +kernel
theorem dX12_isNot_2 : decode cX12_isNot 2 = .ok (.putfield 88, 3) := by decide +kernel
theorem dX12_isNot_5 : decode cX12_isNot 5 = .ok (.iconst 0, 1) := by decide +kernel
theorem dX12_isNot_6 : decode cX12_isNot 6 = .ok (.ireturn, 1) := by decide +kernel
theorem dX12_within_0 : decode cX12_within 0 = .ok (.iload_n 0, 1) := by decide +kernel
theorem dX12_within_1 : decode cX12_within 1 = .ok (.iload_n 1, 1) := by decide +kernel
theorem dX12_within_2 : decode cX12_within 2 = .ok (.if_icmp .lt 12, 3) := by decide +kernel
theorem dX12_within_5 : decode cX12_within 5 = .ok (.iload_n 0, 1) := by decide +kernel
theorem dX12_within_6 : decode cX12_within 6 = .ok (.iload_n 2, 1) := by decide +kernel
theorem dX12_within_7 : decode cX12_within 7 = .ok (.if_icmp .gt 7, 3) := by decide +kernel
theorem dX12_within_10 : decode cX12_within 10 = .ok (.iconst 1, 1) := by decide +kernel
theorem dX12_within_11 : decode cX12_within 11 = .ok (.goto 4, 3) := by decide +kernel
theorem dX12_within_14 : decode cX12_within 14 = .ok (.iconst 0, 1) := by decide +kernel
theorem dX12_within_15 : decode cX12_within 15 = .ok (.ireturn, 1) := by decide +kernel
theorem dX12_hasBit_0 : decode cX12_hasBit 0 = .ok (.iload_n 0, 1) := by decide +kernel
theorem dX12_hasBit_1 : decode cX12_hasBit 1 = .ok (.iload_n 1, 1) := by decide +kernel
theorem dX12_hasBit_2 : decode cX12_hasBit 2 = .ok (.ishr, 1) := by decide +kernel
theorem dX12_hasBit_3 : decode cX12_hasBit 3 = .ok (.iconst 1, 1) := by decide +kernel
theorem dX12_hasBit_4 : decode cX12_hasBit 4 = .ok (.iand, 1) := by decide +kernel
theorem dX12_hasBit_5 : decode cX12_hasBit 5 = .ok (.iconst 1, 1) := by decide +kernel
theorem dX12_hasBit_6 : decode cX12_hasBit 6 = .ok (.if_icmp .ne 7, 3) := by decide +kernel
theorem dX12_hasBit_9 : decode cX12_hasBit 9 = .ok (.iconst 1, 1) := by decide +kernel
theorem dX12_hasBit_10 : decode cX12_hasBit 10 = .ok (.goto 4, 3) := by decide +kernel
theorem dX12_hasBit_13 : decode cX12_hasBit 13 = .ok (.iconst 0, 1) := by decide +kernel
theorem dX12_hasBit_14 : decode cX12_hasBit 14 = .ok (.ireturn, 1) := by decide +kernel
theorem dX12_copy_0 : decode cX12_copy 0 = .ok (.iconst 0, 1) := by decide +kernel
theorem dX12_copy_1 : decode cX12_copy 1 = .ok (.istore 5, 2) := by decide +kernel
theorem dX12_copy_3 : decode cX12_copy 3 = .ok (.iload 5, 2) := by decide +kernel
theorem dX12_copy_5 : decode cX12_copy 5 = .ok (.iload 4, 2) := by decide +kernel
theorem dX12_copy_7 : decode cX12_copy 7 = .ok (.if_icmp .ge 21, 3) := by decide +kernel
theorem dX12_copy_10 : decode cX12_copy 10 = .ok (.aload_n 2, 1) := by decide +kernel
theorem dX12_copy_11 : decode cX12_copy 11 = .ok (.iload_n 3, 1) := by decide +kernel
theorem dX12_copy_12 : decode cX12_copy 12 = .ok (.iload 5, 2) := by decide +kernel
theorem dX12_copy_14 : decode cX12_copy 14 = .ok (.iadd, 1) := by decide +kernel
theorem dX12_copy_15 : decode cX12_copy 15 = .ok (.aload_n 0, 1) := by decide +kernel
theorem dX12_copy_16 : decode cX12_copy 16 = .ok (.iload_n 1, 1) := by decide +kernel
theorem dX12_copy_17 : decode cX12_copy 17 = .ok (.iload 5, 2) := by decide +kernel
theorem dX12_copy_19 : decode cX12_copy 19 = .ok (.iadd, 1) := by decide +kernel
theorem dX12_copy_20 : decode cX12_copy 20 = .ok (.iaload, 1) := by decide +kernel
theorem dX12_copy_21 : decode cX12_copy 21 = .ok (.iastore, 1) := by decide +kernel
theorem dX12_copy_22 : decode cX12_copy 22 = .ok (.iinc 5 1, 3) := by decide +kernel
theorem dX12_copy_25 : decode cX12_copy 25 = .ok (.goto (-22), 3) := by decide +kernel
theorem dX12_copy_28 : decode cX12_copy 28 = .ok (.return_, 1) := by decide +kernel
theorem dX12_feed_0 : decode cX12_feed 0 = .ok (.aload_n 0, 1) := by decide +kernel
theorem dX12_feed_1 : decode cX12_feed 1 = .ok (.iconst 0, 1) := by decide +kernel
theorem dX12_feed_2 : decode cX12_feed 2 = .ok (.putfield 85, 3) := by decide +kernel
theorem dX12_feed_5 : decode cX12_feed 5 = .ok (.aload_n 0, 1) := by decide +kernel
theorem dX12_feed_6 : decode cX12_feed 6 = .ok (.getfield 91, 3) := by decide +kernel
theorem dX12_feed_9 : decode cX12_feed 9 = .ok (.bipush 20, 2) := by decide +kernel
theorem dX12_feed_11 : decode cX12_feed 11 = .ok (.iadd, 1) := by decide +kernel
theorem dX12_feed_12 : decode cX12_feed 12 = .ok (.sipush 900, 3) := by decide +kernel
theorem dX12_feed_15 : decode cX12_feed 15 = .ok (.if_icmp .le 5, 3) := by decide +kernel
theorem dX12_feed_18 : decode cX12_feed 18 = .ok (.iconst (-1), 1) := by decide +kernel
theorem dX12_feed_19 : decode cX12_feed 19 = .ok (.ireturn, 1) := by decide +kernel
theorem dX12_feed_20 : decode cX12_feed 20 = .ok (.iconst 0, 1) := by decide +kernel
theorem dX12_feed_21 : decode cX12_feed 21 = .ok (.istore 6, 2) := by decide +kernel
theorem dX12_feed_23 : decode cX12_feed 23 = .ok (.iload 6, 2) := by decide +kernel
theorem dX12_feed_25 : decode cX12_feed 25 = .ok (.bipush 20, 2) := by decide +kernel
theorem dX12_feed_27 : decode cX12_feed 27 = .ok (.if_icmp .ge 93, 3) := by decide +kernel
theorem dX12_feed_30 : decode cX12_feed 30 = .ok (.iload 6, 2) := by decide +kernel
theorem dX12_feed_32 : decode cX12_feed 32 = .ok (.iconst 4, 1) := by decide +kernel
theorem dX12_feed_33 : decode cX12_feed 33 = .ok (.if_icmp .ge 7, 3) := by decide +kernel
theorem dX12_feed_36 : decode cX12_feed 36 = .ok (.iload_n 1, 1) := by decide +kernel
theorem dX12_feed_37 : decode cX12_feed 37 = .ok (.goto 39, 3) := by decide +kernel
theorem dX12_feed_40 : decode cX12_feed 40 = .ok (.iload 6, 2) := by decide +kernel
theorem dX12_feed_42 : decode cX12_feed 42 = .ok (.bipush 8, 2) := by decide +kernel
theorem dX12_feed_44 : decode cX12_feed 44 = .ok (.if_icmp .ge 7, 3) := by decide +kernel
theorem dX12_feed_47 : decode cX12_feed 47 = .ok (.iload_n 2, 1) := by decide +kernel
theorem dX12_feed_48 : decode cX12_feed 48 = .ok (.goto 28, 3) := by decide +kernel
theorem dX12_feed_51 : decode cX12_feed 51 = .ok (.iload 6, 2) := by decide +kernel
theorem dX12_feed_53 : decode cX12_feed 53 = .ok (.bipush 12, 2) := by decide +kernel
theorem dX12_feed_55 : decode cX12_feed 55 = .ok (.if_icmp .ge 7, 3) := by decide +kernel
theorem dX12_feed_58 : decode cX12_feed 58 = .ok (.iload_n 3, 1) := by decide +kernel
theorem dX12_feed_59 : decode cX12_feed 59 = .ok (.goto 17, 3) := by decide +kernel
theorem dX12_feed_62 : decode cX12_feed 62 = .ok (.iload 6, 2) := by decide +kernel
theorem dX12_feed_64 : decode cX12_feed 64 = .ok (.bipush 16, 2) := by decide +kernel
theorem dX12_feed_66 : decode cX12_feed 66 = .ok (.if_icmp .ge 8, 3) := by decide +kernel
theorem dX12_feed_69 : decode cX12_feed 69 = .ok (.iload 4, 2) := by decide +kernel
theorem dX12_feed_71 : decode cX12_feed 71 = .ok (.goto 5, 3) := by decide +kernel
theorem dX12_feed_74 : decode cX12_feed 74 = .ok (.iload 5, 2) := by decide +kernel
theorem dX12_feed_76 : decode cX12_feed 76 = .ok (.istore 7, 2) := by decide +kernel
theorem dX12_feed_78 : decode cX12_feed 78 = .ok (.aload_n 0, 1) := by decide +kernel
theorem dX12_feed_79 : decode cX12_feed 79 = .ok (.getfield 7, 3) := by decide +kernel
theorem dX12_feed_82 : decode cX12_feed 82 = .ok (.aload_n 0, 1) := by decide +kernel
theorem dX12_feed_83 : decode cX12_feed 83 = .ok (.getfield 91, 3) := by decide +kernel
theorem dX12_feed_86 : decode cX12_feed 86 = .ok (.iload 7, 2) := by decide +kernel
theorem dX12_feed_88 : decode cX12_feed 88 = .ok (.bipush 24, 2) := by decide +kernel
theorem dX12_feed_90 : decode cX12_feed 90 = .ok (.bipush 8, 2) := by decide +kernel
theorem dX12_feed_92 : decode cX12_feed 92 = .ok (.iload 6, 2) := by decide +kernel
theorem dX12_feed_94 : decode cX12_feed 94 = .ok (.iconst 4, 1) := by decide +kernel
theorem dX12_feed_95 : decode cX12_feed 95 = .ok (.irem, 1) := by decide +kernel
theorem dX12_feed_96 : decode cX12_feed 96 = .ok (.imul, 1) := by decide +kernel
theorem dX12_feed_97 : decode cX12_feed 97 = .ok (.isub, 1) := by decide +kernel
theorem dX12_feed_98 : decode cX12_feed 98 = .ok (.ishr, 1) := by decide +kernel
theorem dX12_feed_99 : decode cX12_feed 99 = .ok (.sipush 255, 3) := by decide +kernel
theorem dX12_feed_102 : decode cX12_feed 102 = .ok (.iand, 1) := by decide +kernel
theorem dX12_feed_103 : decode cX12_feed 103 = .ok (.iastore, 1) := by decide +kernel
theorem dX12_feed_104 : decode cX12_feed 104 = .ok (.aload_n 0, 1) := by decide +kernel
theorem dX12_feed_105 : decode cX12_feed 105 = .ok (.dup, 1) := by decide +kernel
theorem dX12_feed_106 : decode cX12_feed 106 = .ok (.getfield 91, 3) := by decide +kernel
theorem dX12_feed_109 : decode cX12_feed 109 = .ok (.iconst 1, 1) := by decide +kernel
theorem dX12_feed_110 : decode cX12_feed 110 = .ok (.iadd, 1) := by decide +kernel
theorem dX12_feed_111 : decode cX12_feed 111 = .ok (.putfield 91, 3) := by decide +kernel
theorem dX12_feed_114 : decode cX12_feed 114 = .ok (.iinc 6 1, 3) := by decide +kernel
theorem dX12_feed_117 : decode cX12_feed 117 = .ok (.goto (-94), 3) := by decide +kernel
theorem dX12_feed_120 : decode cX12_feed 120 = .ok (.aload_n 0, 1) := by decide +kernel
theorem dX12_feed_121 : decode cX12_feed 121 = .ok (.getfield 91, 3) := by decide +kernel
theorem dX12_feed_124 : decode cX12_feed 124 = .ok (.ireturn, 1) := by decide +kernel
theorem dX12_look_0 : decode cX12_look 0 = .ok (.iload_n 1, 1) := by decide +kernel
theorem dX12_look_1 : decode cX12_look 1 = .ok (.aload_n 0, 1) := by decide +kernel
theorem dX12_look_2 : decode cX12_look 2 = .ok (.getfield 94, 3) := by decide +kernel
theorem dX12_look_5 : decode cX12_look 5 = .ok (.if_icmp .ge 12, 3) := by decide +kernel
theorem dX12_look_8 : decode cX12_look 8 = .ok (.aload_n 0, 1) := by decide +kernel
theorem dX12_look_9 : decode cX12_look 9 = .ok (.getfield 7, 3) := by decide +kernel
theorem dX12_look_12 : decode cX12_look 12 = .ok (.iload_n 1, 1) := by decide +kernel
theorem dX12_look_13 : decode cX12_look 13 = .ok (.iaload, 1) := by decide +kernel
theorem dX12_look_14 : decode cX12_look 14 = .ok (.goto 4, 3) := by decide +kernel
theorem dX12_look_17 : decode cX12_look 17 = .ok (.iconst (-1), 1) := by decide +kernel
theorem dX12_look_18 : decode cX12_look 18 = .ok (.ireturn, 1) := by decide +kernel
theorem dX12_isSmall_0 : decode cX12_isSmall 0 = .ok (.iload_n 0, 1) := by decide +kernel
theorem dX12_isSmall_1 : decode cX12_isSmall 1 = .ok (.bipush 97, 2) := by decide +kernel
theorem dX12_isSmall_3 : decode cX12_isSmall 3 = .ok (.if_icmp .lt 13, 3) := by decide +kernel
theorem dX12_isSmall_6 : decode cX12_isSmall 6 = .ok (.iload_n 0, 1) := by decide +kernel
theorem dX12_isSmall_7 : decode cX12_isSmall 7 = .ok (.bipush 122, 2) := by decide +kernel
theorem dX12_isSmall_9 : decode cX12_isSmall 9 = .ok (.if_icmp .gt 7, 3) := by decide +kernel
theorem dX12_isSmall_12 : decode cX12_isSmall 12 = .ok (.iconst 1, 1) := by decide +kernel
theorem dX12_isSmall_13 : decode cX12_isSmall 13 = .ok (.goto 4, 3) := by decide +kernel
theorem dX12_isSmall_16 : decode cX12_isSmall 16 = .ok (.iconst 0, 1) := by decide +kernel
theorem dX12_isSmall_17 : decode cX12_isSmall 17 = .ok (.ireturn, 1) := by decide +kernel
theorem dX12_isDigit_0 : decode cX12_isDigit 0 = .ok (.iload_n 0, 1) := by decide +kernel
theorem dX12_isDigit_1 : decode cX12_isDigit 1 = .ok (.bipush 48, 2) := by decide +kernel
theorem dX12_isDigit_3 : decode cX12_isDigit 3 = .ok (.if_icmp .lt 13, 3) := by decide +kernel
theorem dX12_isDigit_6 : decode cX12_isDigit 6 = .ok (.iload_n 0, 1) := by decide +kernel
theorem dX12_isDigit_7 : decode cX12_isDigit 7 = .ok (.bipush 57, 2) := by decide +kernel
theorem dX12_isDigit_9 : decode cX12_isDigit 9 = .ok (.if_icmp .gt 7, 3) := by decide +kernel
theorem dX12_isDigit_12 : decode cX12_isDigit 12 = .ok (.iconst 1, 1) := by decide +kernel
theorem dX12_isDigit_13 : decode cX12_isDigit 13 = .ok (.goto 4, 3) := by decide +kernel
theorem dX12_isDigit_16 : decode cX12_isDigit 16 = .ok (.iconst 0, 1) := by decide +kernel
theorem dX12_isDigit_17 : decode cX12_isDigit 17 = .ok (.ireturn, 1) := by decide +kernel
theorem dX12_next_0 : decode cX12_next 0 = .ok (.aload_n 0, 1) := by decide +kernel
theorem dX12_next_1 : decode cX12_next 1 = .ok (.getfield 97, 3) := by decide +kernel
theorem dX12_next_4 : decode cX12_next 4 = .ok (.istore_n 1, 1) := by decide +kernel
theorem dX12_next_5 : decode cX12_next 5 = .ok (.aload_n 0, 1) := by decide +kernel
theorem dX12_next_6 : decode cX12_next 6 = .ok (.iload_n 1, 1) := by decide +kernel
theorem dX12_next_7 : decode cX12_next 7 = .ok (.invokevirtual 100, 3) := by decide +kernel
theorem dX12_next_10 : decode cX12_next 10 = .ok (.bipush 32, 2) := by decide +kernel
theorem dX12_next_12 : decode cX12_next 12 = .ok (.if_icmp .ne 9, 3) := by decide +kernel
theorem dX12_next_15 : decode cX12_next 15 = .ok (.iinc 1 1, 3) := by decide +kernel
theorem dX12_next_18 : decode cX12_next 18 = .ok (.goto (-13), 3) := by decide +kernel
theorem dX12_next_21 : decode cX12_next 21 = .ok (.aload_n 0, 1) := by decide +kernel
theorem dX12_next_22 : decode cX12_next 22 = .ok (.iload_n 1, 1) := by decide +kernel
theorem dX12_next_23 : decode cX12_next 23 = .ok (.putfield 104, 3) := by decide +kernel
theorem dX12_next_26 : decode cX12_next 26 = .ok (.aload_n 0, 1) := by decide +kernel
theorem dX12_next_27 : decode cX12_next 27 = .ok (.iload_n 1, 1) := by decide +kernel
theorem dX12_next_28 : decode cX12_next 28 = .ok (.invokevirtual 100, 3) := by decide +kernel
theorem dX12_next_31 : decode cX12_next 31 = .ok (.istore_n 2, 1) := by decide +kernel
theorem dX12_next_32 : decode cX12_next 32 = .ok (.aload_n 0, 1) := by decide +kernel
theorem dX12_next_33 : decode cX12_next 33 = .ok (.iconst 0, 1) := by decide +kernel
theorem dX12_next_34 : decode cX12_next 34 = .ok (.putfield 107, 3) := by decide +kernel
theorem dX12_next_37 : decode cX12_next 37 = .ok (.aload_n 0, 1) := by decide +kernel
theorem dX12_next_38 : decode cX12_next 38 = .ok (.iconst 0, 1) := by decide +kernel
theorem dX12_next_39 : decode cX12_next 39 = .ok (.putfield 110, 3) := by decide +kernel
theorem dX12_next_42 : decode cX12_next 42 = .ok (.iload_n 2, 1) := by decide +kernel
theorem dX12_next_43 : decode cX12_next 43 = .ok (.iconst (-1), 1) := by decide +kernel
theorem dX12_next_44 : decode cX12_next 44 = .ok (.if_icmp .ne 16, 3) := by decide +kernel
theorem dX12_next_47 : decode cX12_next 47 = .ok (.aload_n 0, 1) := by decide +kernel
theorem dX12_next_48 : decode cX12_next 48 = .ok (.iconst 0, 1) := by decide +kernel
theorem dX12_next_49 : decode cX12_next 49 = .ok (.putfield 113, 3) := by decide +kernel
theorem dX12_next_52 : decode cX12_next 52 = .ok (.aload_n 0, 1) := by decide +kernel
theorem dX12_next_53 : decode cX12_next 53 = .ok (.iload_n 1, 1) := by decide +kernel
theorem dX12_next_54 : decode cX12_next 54 = .ok (.putfield 97, 3) := by decide +kernel
theorem dX12_next_57 : decode cX12_next 57 = .ok (.goto 190, 3) := by decide +kernel
theorem dX12_next_60 : decode cX12_next 60 = .ok (.iload_n 2, 1) := by decide +kernel
theorem dX12_next_61 : decode cX12_next 61 = .ok (.invokestatic 116, 3) := by decide +kernel
theorem dX12_next_64 : decode cX12_next 64 = .ok (.ifCond .eq 79, 3) := by decide +kernel
theorem dX12_next_67 : decode cX12_next 67 = .ok (.aload_n 0, 1) := by decide +kernel
theorem dX12_next_68 : decode cX12_next 68 = .ok (.iload_n 1, 1) := by decide +kernel
theorem dX12_next_69 : decode cX12_next 69 = .ok (.invokevirtual 100, 3) := by decide +kernel
theorem dX12_next_72 : decode cX12_next 72 = .ok (.invokestatic 116, 3) := by decide +kernel
theorem dX12_next_75 : decode cX12_next 75 = .ok (.ifCond .eq 42, 3) := by decide +kernel
theorem dX12_next_78 : decode cX12_next 78 = .ok (.aload_n 0, 1) := by decide +kernel
theorem dX12_next_79 : decode cX12_next 79 = .ok (.getfield 107, 3) := by decide +kernel
theorem dX12_next_82 : decode cX12_next 82 = .ok (.bipush 8, 2) := by decide +kernel
theorem dX12_next_84 : decode cX12_next 84 = .ok (.if_icmp .ge 17, 3) := by decide +kernel
theorem dX12_next_87 : decode cX12_next 87 = .ok (.aload_n 0, 1) := by decide +kernel
theorem dX12_next_88 : decode cX12_next 88 = .ok (.getfield 17, 3) := by decide +kernel
theorem dX12_next_91 : decode cX12_next 91 = .ok (.aload_n 0, 1) := by decide +kernel
theorem dX12_next_92 : decode cX12_next 92 = .ok (.getfield 107, 3) := by decide +kernel
theorem dX12_next_95 : decode cX12_next 95 = .ok (.aload_n 0, 1) := by decide +kernel
theorem dX12_next_96 : decode cX12_next 96 = .ok (.iload_n 1, 1) := by decide +kernel
theorem dX12_next_97 : decode cX12_next 97 = .ok (.invokevirtual 100, 3) := by decide +kernel
theorem dX12_next_100 : decode cX12_next 100 = .ok (.iastore, 1) := by decide +kernel
theorem dX12_next_101 : decode cX12_next 101 = .ok (.aload_n 0, 1) := by decide +kernel
theorem dX12_next_102 : decode cX12_next 102 = .ok (.dup, 1) := by decide +kernel
theorem dX12_next_103 : decode cX12_next 103 = .ok (.getfield 107, 3) := by decide +kernel
theorem dX12_next_106 : decode cX12_next 106 = .ok (.iconst 1, 1) := by decide +kernel
theorem dX12_next_107 : decode cX12_next 107 = .ok (.iadd, 1) := by decide +kernel
theorem dX12_next_108 : decode cX12_next 108 = .ok (.putfield 107, 3) := by decide +kernel
theorem dX12_next_111 : decode cX12_next 111 = .ok (.iinc 1 1, 3) := by decide +kernel
theorem dX12_next_114 : decode cX12_next 114 = .ok (.goto (-47), 3) := by decide +kernel
theorem dX12_next_117 : decode cX12_next 117 = .ok (.aload_n 0, 1) := by decide +kernel
theorem dX12_next_118 : decode cX12_next 118 = .ok (.iload_n 1, 1) := by decide +kernel
theorem dX12_next_119 : decode cX12_next 119 = .ok (.putfield 97, 3) := by decide +kernel
theorem dX12_next_122 : decode cX12_next 122 = .ok (.aload_n 0, 1) := by decide +kernel
theorem dX12_next_123 : decode cX12_next 123 = .ok (.aload_n 0, 1) := by decide +kernel
theorem dX12_next_124 : decode cX12_next 124 = .ok (.getfield 107, 3) := by decide +kernel
theorem dX12_next_127 : decode cX12_next 127 = .ok (.bipush 8, 2) := by decide +kernel
theorem dX12_next_129 : decode cX12_next 129 = .ok (.if_icmp .le 7, 3) := by decide +kernel
theorem dX12_next_132 : decode cX12_next 132 = .ok (.iconst 1, 1) := by decide +kernel
theorem dX12_next_133 : decode cX12_next 133 = .ok (.goto 4, 3) := by decide +kernel
theorem dX12_next_136 : decode cX12_next 136 = .ok (.iconst 2, 1) := by decide +kernel
theorem dX12_next_137 : decode cX12_next 137 = .ok (.putfield 113, 3) := by decide +kernel
theorem dX12_next_140 : decode cX12_next 140 = .ok (.goto 107, 3) := by decide +kernel
theorem dX12_next_143 : decode cX12_next 143 = .ok (.iload_n 2, 1) := by decide +kernel
theorem dX12_next_144 : decode cX12_next 144 = .ok (.invokestatic 120, 3) := by decide +kernel
theorem dX12_next_147 : decode cX12_next 147 = .ok (.ifCond .eq 72, 3) := by decide +kernel
theorem dX12_next_150 : decode cX12_next 150 = .ok (.iconst 0, 1) := by decide +kernel
theorem dX12_next_151 : decode cX12_next 151 = .ok (.istore_n 3, 1) := by decide +kernel
theorem dX12_next_152 : decode cX12_next 152 = .ok (.aload_n 0, 1) := by decide +kernel
theorem dX12_next_153 : decode cX12_next 153 = .ok (.iload_n 1, 1) := by decide +kernel
theorem dX12_next_154 : decode cX12_next 154 = .ok (.invokevirtual 100, 3) := by decide +kernel
theorem dX12_next_157 : decode cX12_next 157 = .ok (.invokestatic 120, 3) := by decide +kernel
theorem dX12_next_160 : decode cX12_next 160 = .ok (.ifCond .eq 37, 3) := by decide +kernel
theorem dX12_next_163 : decode cX12_next 163 = .ok (.iload_n 3, 1) := by decide +kernel
theorem dX12_next_164 : decode cX12_next 164 = .ok (.iconst 3, 1) := by decide +kernel
theorem dX12_next_165 : decode cX12_next 165 = .ok (.if_icmp .ge 23, 3) := by decide +kernel
theorem dX12_next_168 : decode cX12_next 168 = .ok (.aload_n 0, 1) := by decide +kernel
theorem dX12_next_169 : decode cX12_next 169 = .ok (.bipush 10, 2) := by decide +kernel
theorem dX12_next_171 : decode cX12_next 171 = .ok (.aload_n 0, 1) := by decide +kernel
theorem dX12_next_172 : decode cX12_next 172 = .ok (.getfield 110, 3) := by decide +kernel
theorem dX12_next_175 : decode cX12_next 175 = .ok (.imul, 1) := by decide +kernel
theorem dX12_next_176 : decode cX12_next 176 = .ok (.aload_n 0, 1) := by decide +kernel
theorem dX12_next_177 : decode cX12_next 177 = .ok (.iload_n 1, 1) := by decide +kernel
theorem dX12_next_178 : decode cX12_next 178 = .ok (.invokevirtual 100, 3) := by decide +kernel
theorem dX12_next_181 : decode cX12_next 181 = .ok (.iadd, 1) := by decide +kernel
theorem dX12_next_182 : decode cX12_next 182 = .ok (.bipush 48, 2) := by decide +kernel
theorem dX12_next_184 : decode cX12_next 184 = .ok (.isub, 1) := by decide +kernel
theorem dX12_next_185 : decode cX12_next 185 = .ok (.putfield 110, 3) := by decide +kernel
theorem dX12_next_188 : decode cX12_next 188 = .ok (.iinc 3 1, 3) := by decide +kernel
theorem dX12_next_191 : decode cX12_next 191 = .ok (.iinc 1 1, 3) := by decide +kernel
theorem dX12_next_194 : decode cX12_next 194 = .ok (.goto (-42), 3) := by decide +kernel
theorem dX12_next_197 : decode cX12_next 197 = .ok (.aload_n 0, 1) := by decide +kernel
theorem dX12_next_198 : decode cX12_next 198 = .ok (.iload_n 1, 1) := by decide +kernel
theorem dX12_next_199 : decode cX12_next 199 = .ok (.putfield 97, 3) := by decide +kernel
theorem dX12_next_202 : decode cX12_next 202 = .ok (.aload_n 0, 1) := by decide +kernel
theorem dX12_next_203 : decode cX12_next 203 = .ok (.iload_n 3, 1) := by decide +kernel
theorem dX12_next_204 : decode cX12_next 204 = .ok (.iconst 3, 1) := by decide +kernel
theorem dX12_next_205 : decode cX12_next 205 = .ok (.if_icmp .le 7, 3) := by decide +kernel
theorem dX12_next_208 : decode cX12_next 208 = .ok (.iconst 1, 1) := by decide +kernel
theorem dX12_next_209 : decode cX12_next 209 = .ok (.goto 4, 3) := by decide +kernel
theorem dX12_next_212 : decode cX12_next 212 = .ok (.iconst 3, 1) := by decide +kernel
theorem dX12_next_213 : decode cX12_next 213 = .ok (.putfield 113, 3) := by decide +kernel
theorem dX12_next_216 : decode cX12_next 216 = .ok (.goto 31, 3) := by decide +kernel
theorem dX12_next_219 : decode cX12_next 219 = .ok (.aload_n 0, 1) := by decide +kernel
theorem dX12_next_220 : decode cX12_next 220 = .ok (.iload_n 1, 1) := by decide +kernel
theorem dX12_next_221 : decode cX12_next 221 = .ok (.iconst 1, 1) := by decide +kernel
theorem dX12_next_222 : decode cX12_next 222 = .ok (.iadd, 1) := by decide +kernel
theorem dX12_next_223 : decode cX12_next 223 = .ok (.putfield 97, 3) := by decide +kernel
theorem dX12_next_226 : decode cX12_next 226 = .ok (.aload_n 0, 1) := by decide +kernel
theorem dX12_next_227 : decode cX12_next 227 = .ok (.iload_n 2, 1) := by decide +kernel
theorem dX12_next_228 : decode cX12_next 228 = .ok (.bipush 59, 2) := by decide +kernel
theorem dX12_next_230 : decode cX12_next 230 = .ok (.if_icmp .eq 9, 3) := by decide +kernel
theorem dX12_next_233 : decode cX12_next 233 = .ok (.iload_n 2, 1) := by decide +kernel
theorem dX12_next_234 : decode cX12_next 234 = .ok (.bipush 44, 2) := by decide +kernel
theorem dX12_next_236 : decode cX12_next 236 = .ok (.if_icmp .ne 7, 3) := by decide +kernel
theorem dX12_next_239 : decode cX12_next 239 = .ok (.iload_n 2, 1) := by decide +kernel
theorem dX12_next_240 : decode cX12_next 240 = .ok (.goto 4, 3) := by decide +kernel
theorem dX12_next_243 : decode cX12_next 243 = .ok (.iconst 1, 1) := by decide +kernel
theorem dX12_next_244 : decode cX12_next 244 = .ok (.putfield 113, 3) := by decide +kernel
theorem dX12_next_247 : decode cX12_next 247 = .ok (.return_, 1) := by decide +kernel
theorem dX12_wrong_0 : decode cX12_wrong 0 = .ok (.aload_n 0, 1) := by decide +kernel
theorem dX12_wrong_1 : decode cX12_wrong 1 = .ok (.getfield 123, 3) := by decide +kernel
theorem dX12_wrong_4 : decode cX12_wrong 4 = .ok (.ifCond .eq 4, 3) := by decide +kernel
theorem dX12_wrong_7 : decode cX12_wrong 7 = .ok (.return_, 1) := by decide +kernel
theorem dX12_wrong_8 : decode cX12_wrong 8 = .ok (.aload_n 0, 1) := by decide +kernel
theorem dX12_wrong_9 : decode cX12_wrong 9 = .ok (.iconst 1, 1) := by decide +kernel
theorem dX12_wrong_10 : decode cX12_wrong 10 = .ok (.putfield 123, 3) := by decide +kernel
theorem dX12_wrong_13 : decode cX12_wrong 13 = .ok (.aload_n 0, 1) := by decide +kernel
theorem dX12_wrong_14 : decode cX12_wrong 14 = .ok (.iload_n 1, 1) := by decide +kernel
theorem dX12_wrong_15 : decode cX12_wrong 15 = .ok (.putfield 127, 3) := by decide +kernel
theorem dX12_wrong_18 : decode cX12_wrong 18 = .ok (.aload_n 0, 1) := by decide +kernel
theorem dX12_wrong_19 : decode cX12_wrong 19 = .ok (.iload_n 2, 1) := by decide +kernel
theorem dX12_wrong_20 : decode cX12_wrong 20 = .ok (.putfield 13, 3) := by decide +kernel
theorem dX12_wrong_23 : decode cX12_wrong 23 = .ok (.return_, 1) := by decide +kernel
theorem dX12_isWord_0 : decode cX12_isWord 0 = .ok (.aload_n 0, 1) := by decide +kernel
theorem dX12_isWord_1 : decode cX12_isWord 1 = .ok (.getfield 123, 3) := by decide +kernel
theorem dX12_isWord_4 : decode cX12_isWord 4 = .ok (.ifCond .ne 22, 3) := by decide +kernel
theorem dX12_isWord_7 : decode cX12_isWord 7 = .ok (.aload_n 0, 1) := by decide +kernel
theorem dX12_isWord_8 : decode cX12_isWord 8 = .ok (.getfield 113, 3) := by decide +kernel
theorem dX12_isWord_11 : decode cX12_isWord 11 = .ok (.iconst 2, 1) := by decide +kernel
theorem dX12_isWord_12 : decode cX12_isWord 12 = .ok (.if_icmp .ne 14, 3) := by decide +kernel
theorem dX12_isWord_15 : decode cX12_isWord 15 = .ok (.aload_n 0, 1) := by decide +kernel
theorem dX12_isWord_16 : decode cX12_isWord 16 = .ok (.getfield 107, 3) := by decide +kernel
theorem dX12_isWord_19 : decode cX12_isWord 19 = .ok (.aload_n 1, 1) := by decide +kernel
theorem dX12_isWord_20 : decode cX12_isWord 20 = .ok (.invokevirtual 130, 3) := by decide +kernel
theorem dX12_isWord_23 : decode cX12_isWord 23 = .ok (.if_icmp .eq 5, 3) := by decide +kernel
theorem dX12_isWord_26 : decode cX12_isWord 26 = .ok (.iconst 0, 1) := by decide +kernel
theorem dX12_isWord_27 : decode cX12_isWord 27 = .ok (.ireturn, 1) := by decide +kernel
theorem dX12_isWord_28 : decode cX12_isWord 28 = .ok (.iconst 1, 1) := by decide +kernel
theorem dX12_isWord_29 : decode cX12_isWord 29 = .ok (.istore_n 2, 1) := by decide +kernel
theorem dX12_isWord_30 : decode cX12_isWord 30 = .ok (.iconst 0, 1) := by decide +kernel
theorem dX12_isWord_31 : decode cX12_isWord 31 = .ok (.istore_n 3, 1) := by decide +kernel
theorem dX12_isWord_32 : decode cX12_isWord 32 = .ok (.iload_n 3, 1) := by decide +kernel
theorem dX12_isWord_33 : decode cX12_isWord 33 = .ok (.aload_n 0, 1) := by decide +kernel
theorem dX12_isWord_34 : decode cX12_isWord 34 = .ok (.getfield 107, 3) := by decide +kernel
theorem dX12_isWord_37 : decode cX12_isWord 37 = .ok (.if_icmp .ge 33, 3) := by decide +kernel
theorem dX12_isWord_40 : decode cX12_isWord 40 = .ok (.iload_n 2, 1) := by decide +kernel
theorem dX12_isWord_41 : decode cX12_isWord 41 = .ok (.ifCond .eq 21, 3) := by decide +kernel
theorem dX12_isWord_44 : decode cX12_isWord 44 = .ok (.aload_n 0, 1) := by decide +kernel
theorem dX12_isWord_45 : decode cX12_isWord 45 = .ok (.getfield 17, 3) := by decide +kernel
theorem dX12_isWord_48 : decode cX12_isWord 48 = .ok (.iload_n 3, 1) := by decide +kernel
theorem dX12_isWord_49 : decode cX12_isWord 49 = .ok (.iaload, 1) := by decide +kernel
theorem dX12_isWord_50 : decode cX12_isWord 50 = .ok (.aload_n 1, 1) := by decide +kernel
theorem dX12_isWord_51 : decode cX12_isWord 51 = .ok (.iload_n 3, 1) := by decide +kernel
theorem dX12_isWord_52 : decode cX12_isWord 52 = .ok (.invokevirtual 136, 3) := by decide +kernel
theorem dX12_isWord_55 : decode cX12_isWord 55 = .ok (.if_icmp .ne 7, 3) := by decide +kernel
theorem dX12_isWord_58 : decode cX12_isWord 58 = .ok (.iconst 1, 1) := by decide +kernel
theorem dX12_isWord_59 : decode cX12_isWord 59 = .ok (.goto 4, 3) := by decide +kernel
theorem dX12_isWord_62 : decode cX12_isWord 62 = .ok (.iconst 0, 1) := by decide +kernel
theorem dX12_isWord_63 : decode cX12_isWord 63 = .ok (.istore_n 2, 1) := by decide +kernel
theorem dX12_isWord_64 : decode cX12_isWord 64 = .ok (.iinc 3 1, 3) := by decide +kernel
theorem dX12_isWord_67 : decode cX12_isWord 67 = .ok (.goto (-35), 3) := by decide +kernel
theorem dX12_isWord_70 : decode cX12_isWord 70 = .ok (.iload_n 2, 1) := by decide +kernel
theorem dX12_isWord_71 : decode cX12_isWord 71 = .ok (.ireturn, 1) := by decide +kernel
theorem dX12_takesWord_0 : decode cX12_takesWord 0 = .ok (.aload_n 0, 1) := by decide +kernel
theorem dX12_takesWord_1 : decode cX12_takesWord 1 = .ok (.aload_n 1, 1) := by decide +kernel
theorem dX12_takesWord_2 : decode cX12_takesWord 2 = .ok (.invokevirtual 140, 3) := by decide +kernel
theorem dX12_takesWord_5 : decode cX12_takesWord 5 = .ok (.ifCond .ne 5, 3) := by decide +kernel
theorem dX12_takesWord_8 : decode cX12_takesWord 8 = .ok (.iconst 0, 1) := by decide +kernel
theorem dX12_takesWord_9 : decode cX12_takesWord 9 = .ok (.ireturn, 1) := by decide +kernel
theorem dX12_takesWord_10 : decode cX12_takesWord 10 = .ok (.aload_n 0, 1) := by decide +kernel
theorem dX12_takesWord_11 : decode cX12_takesWord 11 = .ok (.invokevirtual 144, 3) := by decide +kernel
theorem dX12_takesWord_14 : decode cX12_takesWord 14 = .ok (.iconst 1, 1) := by decide +kernel
theorem dX12_takesWord_15 : decode cX12_takesWord 15 = .ok (.ireturn, 1) := by decide +kernel
theorem dX12_must_0 : decode cX12_must 0 = .ok (.aload_n 0, 1) := by decide +kernel
theorem dX12_must_1 : decode cX12_must 1 = .ok (.getfield 123, 3) := by decide +kernel
theorem dX12_must_4 : decode cX12_must 4 = .ok (.ifCond .ne 20, 3) := by decide +kernel
theorem dX12_must_7 : decode cX12_must 7 = .ok (.aload_n 0, 1) := by decide +kernel
theorem dX12_must_8 : decode cX12_must 8 = .ok (.aload_n 1, 1) := by decide +kernel
theorem dX12_must_9 : decode cX12_must 9 = .ok (.invokevirtual 147, 3) := by decide +kernel
theorem dX12_must_12 : decode cX12_must 12 = .ok (.ifCond .ne 12, 3) := by decide +kernel
theorem dX12_must_15 : decode cX12_must 15 = .ok (.aload_n 0, 1) := by decide +kernel
theorem dX12_must_16 : decode cX12_must 16 = .ok (.iconst 1, 1) := by decide +kernel
theorem dX12_must_17 : decode cX12_must 17 = .ok (.aload_n 0, 1) := by decide +kernel
theorem dX12_must_18 : decode cX12_must 18 = .ok (.getfield 104, 3) := by decide +kernel
theorem dX12_must_21 : decode cX12_must 21 = .ok (.invokevirtual 150, 3) := by decide +kernel
theorem dX12_must_24 : decode cX12_must 24 = .ok (.return_, 1) := by decide +kernel
theorem dX12_mustName_0 : decode cX12_mustName 0 = .ok (.aload_n 0, 1) := by decide +kernel
theorem dX12_mustName_1 : decode cX12_mustName 1 = .ok (.ldc 154, 2) := by decide +kernel
theorem dX12_mustName_3 : decode cX12_mustName 3 = .ok (.invokevirtual 140, 3) := by decide +kernel
theorem dX12_mustName_6 : decode cX12_mustName 6 = .ok (.ifCond .ne 39, 3) := by decide +kernel
theorem dX12_mustName_9 : decode cX12_mustName 9 = .ok (.aload_n 0, 1) := by decide +kernel
theorem dX12_mustName_10 : decode cX12_mustName 10 = .ok (.ldc 156, 2) := by decide +kernel
theorem dX12_mustName_12 : decode cX12_mustName 12 = .ok (.invokevirtual 140, 3) := by decide +kernel
theorem dX12_mustName_15 : decode cX12_mustName 15 = .ok (.ifCond .ne 30, 3) := by decide +kernel
theorem dX12_mustName_18 : decode cX12_mustName 18 = .ok (.aload_n 0, 1) := by decide +kernel
theorem dX12_mustName_19 : decode cX12_mustName 19 = .ok (.ldc 157, 2) := by decide +kernel
theorem dX12_mustName_21 : decode cX12_mustName 21 = .ok (.invokevirtual 140, 3) := by decide +kernel
theorem dX12_mustName_24 : decode cX12_mustName 24 = .ok (.ifCond .ne 21, 3) := by decide +kernel
theorem dX12_mustName_27 : decode cX12_mustName 27 = .ok (.aload_n 0, 1) := by decide +kernel
theorem dX12_mustName_28 : decode cX12_mustName 28 = .ok (.ldc 159, 2) := by decide +kernel
theorem dX12_mustName_30 : decode cX12_mustName 30 = .ok (.invokevirtual 140, 3) := by decide +kernel
theorem dX12_mustName_33 : decode cX12_mustName 33 = .ok (.ifCond .ne 12, 3) := by decide +kernel
theorem dX12_mustName_36 : decode cX12_mustName 36 = .ok (.aload_n 0, 1) := by decide +kernel
theorem dX12_mustName_37 : decode cX12_mustName 37 = .ok (.ldc 160, 2) := by decide +kernel
theorem dX12_mustName_39 : decode cX12_mustName 39 = .ok (.invokevirtual 140, 3) := by decide +kernel
theorem dX12_mustName_42 : decode cX12_mustName 42 = .ok (.ifCond .eq 7, 3) := by decide +kernel
theorem dX12_mustName_45 : decode cX12_mustName 45 = .ok (.iconst 1, 1) := by decide +kernel
theorem dX12_mustName_46 : decode cX12_mustName 46 = .ok (.goto 4, 3) := by decide +kernel
theorem dX12_mustName_49 : decode cX12_mustName 49 = .ok (.iconst 0, 1) := by decide +kernel
theorem dX12_mustName_50 : decode cX12_mustName 50 = .ok (.istore_n 1, 1) := by decide +kernel
theorem dX12_mustName_51 : decode cX12_mustName 51 = .ok (.aload_n 0, 1) := by decide +kernel
theorem dX12_mustName_52 : decode cX12_mustName 52 = .ok (.getfield 113, 3) := by decide +kernel
theorem dX12_mustName_55 : decode cX12_mustName 55 = .ok (.iconst 2, 1) := by decide +kernel
theorem dX12_mustName_56 : decode cX12_mustName 56 = .ok (.if_icmp .ne 7, 3) := by decide +kernel
theorem dX12_mustName_59 : decode cX12_mustName 59 = .ok (.iload_n 1, 1) := by decide +kernel
theorem dX12_mustName_60 : decode cX12_mustName 60 = .ok (.ifCond .eq 12, 3) := by decide +kernel
theorem dX12_mustName_63 : decode cX12_mustName 63 = .ok (.aload_n 0, 1) := by decide +kernel
theorem dX12_mustName_64 : decode cX12_mustName 64 = .ok (.iconst 1, 1) := by decide +kernel
theorem dX12_mustName_65 : decode cX12_mustName 65 = .ok (.aload_n 0, 1) := by decide +kernel
theorem dX12_mustName_66 : decode cX12_mustName 66 = .ok (.getfield 104, 3) := by decide +kernel
theorem dX12_mustName_69 : decode cX12_mustName 69 = .ok (.invokevirtual 150, 3) := by decide +kernel
theorem dX12_mustName_72 : decode cX12_mustName 72 = .ok (.return_, 1) := by decide +kernel
theorem dX12_find_0 : decode cX12_find 0 = .ok (.iconst 0, 1) := by decide +kernel
theorem dX12_find_1 : decode cX12_find 1 = .ok (.istore_n 1, 1) := by decide +kernel
theorem dX12_find_2 : decode cX12_find 2 = .ok (.iload_n 1, 1) := by decide +kernel
theorem dX12_find_3 : decode cX12_find 3 = .ok (.bipush 7, 2) := by decide +kernel
theorem dX12_find_5 : decode cX12_find 5 = .ok (.if_icmp .ge 98, 3) := by decide +kernel
theorem dX12_find_8 : decode cX12_find 8 = .ok (.aload_n 0, 1) := by decide +kernel
theorem dX12_find_9 : decode cX12_find 9 = .ok (.getfield 23, 3) := by decide +kernel
theorem dX12_find_12 : decode cX12_find 12 = .ok (.bipush 37, 2) := by decide +kernel
theorem dX12_find_14 : decode cX12_find 14 = .ok (.iload_n 1, 1) := by decide +kernel
theorem dX12_find_15 : decode cX12_find 15 = .ok (.iadd, 1) := by decide +kernel
theorem dX12_find_16 : decode cX12_find 16 = .ok (.iaload, 1) := by decide +kernel
theorem dX12_find_17 : decode cX12_find 17 = .ok (.ifCond .le 23, 3) := by decide +kernel
theorem dX12_find_20 : decode cX12_find 20 = .ok (.aload_n 0, 1) := by decide +kernel
theorem dX12_find_21 : decode cX12_find 21 = .ok (.getfield 23, 3) := by decide +kernel
theorem dX12_find_24 : decode cX12_find 24 = .ok (.bipush 37, 2) := by decide +kernel
theorem dX12_find_26 : decode cX12_find 26 = .ok (.iload_n 1, 1) := by decide +kernel
theorem dX12_find_27 : decode cX12_find 27 = .ok (.iadd, 1) := by decide +kernel
theorem dX12_find_28 : decode cX12_find 28 = .ok (.iaload, 1) := by decide +kernel
theorem dX12_find_29 : decode cX12_find 29 = .ok (.aload_n 0, 1) := by decide +kernel
theorem dX12_find_30 : decode cX12_find 30 = .ok (.getfield 107, 3) := by decide +kernel
theorem dX12_find_33 : decode cX12_find 33 = .ok (.if_icmp .ne 7, 3) := by decide +kernel
theorem dX12_find_36 : decode cX12_find 36 = .ok (.iconst 1, 1) := by decide +kernel
theorem dX12_find_37 : decode cX12_find 37 = .ok (.goto 4, 3) := by decide +kernel
theorem dX12_find_40 : decode cX12_find 40 = .ok (.iconst 0, 1) := by decide +kernel
theorem dX12_find_41 : decode cX12_find 41 = .ok (.istore_n 2, 1) := by decide +kernel
theorem dX12_find_42 : decode cX12_find 42 = .ok (.iconst 0, 1) := by decide +kernel
theorem dX12_find_43 : decode cX12_find 43 = .ok (.istore_n 3, 1) := by decide +kernel
theorem dX12_find_44 : decode cX12_find 44 = .ok (.iload_n 3, 1) := by decide +kernel
theorem dX12_find_45 : decode cX12_find 45 = .ok (.aload_n 0, 1) := by decide +kernel
theorem dX12_find_46 : decode cX12_find 46 = .ok (.getfield 107, 3) := by decide +kernel
theorem dX12_find_49 : decode cX12_find 49 = .ok (.if_icmp .ge 42, 3) := by decide +kernel
theorem dX12_find_52 : decode cX12_find 52 = .ok (.iload_n 2, 1) := by decide +kernel
theorem dX12_find_53 : decode cX12_find 53 = .ok (.ifCond .eq 38, 3) := by decide +kernel
theorem dX12_find_56 : decode cX12_find 56 = .ok (.aload_n 0, 1) := by decide +kernel
theorem dX12_find_57 : decode cX12_find 57 = .ok (.getfield 23, 3) := by decide +kernel
theorem dX12_find_60 : decode cX12_find 60 = .ok (.bipush 44, 2) := by decide +kernel
theorem dX12_find_62 : decode cX12_find 62 = .ok (.bipush 8, 2) := by decide +kernel
theorem dX12_find_64 : decode cX12_find 64 = .ok (.iload_n 1, 1) := by decide +kernel
theorem dX12_find_65 : decode cX12_find 65 = .ok (.imul, 1) := by decide +kernel
theorem dX12_find_66 : decode cX12_find 66 = .ok (.iadd, 1) := by decide +kernel
theorem dX12_find_67 : decode cX12_find 67 = .ok (.iload_n 3, 1) := by decide +kernel
theorem dX12_find_68 : decode cX12_find 68 = .ok (.iadd, 1) := by decide +kernel
theorem dX12_find_69 : decode cX12_find 69 = .ok (.iaload, 1) := by decide +kernel
theorem dX12_find_70 : decode cX12_find 70 = .ok (.aload_n 0, 1) := by decide +kernel
theorem dX12_find_71 : decode cX12_find 71 = .ok (.getfield 17, 3) := by decide +kernel
theorem dX12_find_74 : decode cX12_find 74 = .ok (.iload_n 3, 1) := by decide +kernel
theorem dX12_find_75 : decode cX12_find 75 = .ok (.iaload, 1) := by decide +kernel
theorem dX12_find_76 : decode cX12_find 76 = .ok (.if_icmp .ne 7, 3) := by decide +kernel
theorem dX12_find_79 : decode cX12_find 79 = .ok (.iconst 1, 1) := by decide +kernel
theorem dX12_find_80 : decode cX12_find 80 = .ok (.goto 4, 3) := by decide +kernel
theorem dX12_find_83 : decode cX12_find 83 = .ok (.iconst 0, 1) := by decide +kernel
theorem dX12_find_84 : decode cX12_find 84 = .ok (.istore_n 2, 1) := by decide +kernel
theorem dX12_find_85 : decode cX12_find 85 = .ok (.iinc 3 1, 3) := by decide +kernel
theorem dX12_find_88 : decode cX12_find 88 = .ok (.goto (-44), 3) := by decide +kernel
theorem dX12_find_91 : decode cX12_find 91 = .ok (.iload_n 2, 1) := by decide +kernel
theorem dX12_find_92 : decode cX12_find 92 = .ok (.ifCond .eq 5, 3) := by decide +kernel
theorem dX12_find_95 : decode cX12_find 95 = .ok (.iload_n 1, 1) := by decide +kernel
theorem dX12_find_96 : decode cX12_find 96 = .ok (.ireturn, 1) := by decide +kernel
theorem dX12_find_97 : decode cX12_find 97 = .ok (.iinc 1 1, 3) := by decide +kernel
theorem dX12_find_100 : decode cX12_find 100 = .ok (.goto (-98), 3) := by decide +kernel
theorem dX12_find_103 : decode cX12_find 103 = .ok (.iconst (-1), 1) := by decide +kernel
theorem dX12_find_104 : decode cX12_find 104 = .ok (.ireturn, 1) := by decide +kernel
theorem dX12_newName_0 : decode cX12_newName 0 = .ok (.aload_n 0, 1) := by decide +kernel
theorem dX12_newName_1 : decode cX12_newName 1 = .ok (.getfield 123, 3) := by decide +kernel
theorem dX12_newName_4 : decode cX12_newName 4 = .ok (.ifCond .eq 4, 3) := by decide +kernel
theorem dX12_newName_7 : decode cX12_newName 7 = .ok (.return_, 1) := by decide +kernel
theorem dX12_newName_8 : decode cX12_newName 8 = .ok (.aload_n 0, 1) := by decide +kernel
theorem dX12_newName_9 : decode cX12_newName 9 = .ok (.invokevirtual 162, 3) := by decide +kernel
theorem dX12_newName_12 : decode cX12_newName 12 = .ok (.aload_n 0, 1) := by decide +kernel
theorem dX12_newName_13 : decode cX12_newName 13 = .ok (.getfield 123, 3) := by decide +kernel
theorem dX12_newName_16 : decode cX12_newName 16 = .ok (.ifCond .ne 19, 3) := by decide +kernel
theorem dX12_newName_19 : decode cX12_newName 19 = .ok (.aload_n 0, 1) := by decide +kernel
theorem dX12_newName_20 : decode cX12_newName 20 = .ok (.invokevirtual 165, 3) := by decide +kernel
theorem dX12_newName_23 : decode cX12_newName 23 = .ok (.ifCond .lt 12, 3) := by decide +kernel
theorem dX12_newName_26 : decode cX12_newName 26 = .ok (.aload_n 0, 1) := by decide +kernel
theorem dX12_newName_27 : decode cX12_newName 27 = .ok (.iconst 3, 1) := by decide +kernel
theorem dX12_newName_28 : decode cX12_newName 28 = .ok (.aload_n 0, 1) := by decide +kernel
theorem dX12_newName_29 : decode cX12_newName 29 = .ok (.getfield 104, 3) := by decide +kernel
theorem dX12_newName_32 : decode cX12_newName 32 = .ok (.invokevirtual 150, 3) := by decide +kernel
theorem dX12_newName_35 : decode cX12_newName 35 = .ok (.aload_n 0, 1) := by decide +kernel
theorem dX12_newName_36 : decode cX12_newName 36 = .ok (.getfield 123, 3) := by decide +kernel
theorem dX12_newName_39 : decode cX12_newName 39 = .ok (.ifCond .eq 4, 3) := by decide +kernel
theorem dX12_newName_42 : decode cX12_newName 42 = .ok (.return_, 1) := by decide +kernel
theorem dX12_newName_43 : decode cX12_newName 43 = .ok (.iconst 0, 1) := by decide +kernel
theorem dX12_newName_44 : decode cX12_newName 44 = .ok (.istore_n 2, 1) := by decide +kernel
theorem dX12_newName_45 : decode cX12_newName 45 = .ok (.iload_n 2, 1) := by decide +kernel
theorem dX12_newName_46 : decode cX12_newName 46 = .ok (.aload_n 0, 1) := by decide +kernel
theorem dX12_newName_47 : decode cX12_newName 47 = .ok (.getfield 107, 3) := by decide +kernel
theorem dX12_newName_50 : decode cX12_newName 50 = .ok (.if_icmp .ge 29, 3) := by decide +kernel
theorem dX12_newName_53 : decode cX12_newName 53 = .ok (.aload_n 0, 1) := by decide +kernel
theorem dX12_newName_54 : decode cX12_newName 54 = .ok (.getfield 23, 3) := by decide +kernel
theorem dX12_newName_57 : decode cX12_newName 57 = .ok (.bipush 44, 2) := by decide +kernel
theorem dX12_newName_59 : decode cX12_newName 59 = .ok (.bipush 8, 2) := by decide +kernel
theorem dX12_newName_61 : decode cX12_newName 61 = .ok (.iload_n 1, 1) := by decide +kernel
theorem dX12_newName_62 : decode cX12_newName 62 = .ok (.imul, 1) := by decide +kernel
theorem dX12_newName_63 : decode cX12_newName 63 = .ok (.iadd, 1) := by decide +kernel
theorem dX12_newName_64 : decode cX12_newName 64 = .ok (.iload_n 2, 1) := by decide +kernel
theorem dX12_newName_65 : decode cX12_newName 65 = .ok (.iadd, 1) := by decide +kernel
theorem dX12_newName_66 : decode cX12_newName 66 = .ok (.aload_n 0, 1) := by decide +kernel
theorem dX12_newName_67 : decode cX12_newName 67 = .ok (.getfield 17, 3) := by decide +kernel
theorem dX12_newName_70 : decode cX12_newName 70 = .ok (.iload_n 2, 1) := by decide +kernel
theorem dX12_newName_71 : decode cX12_newName 71 = .ok (.iaload, 1) := by decide +kernel
theorem dX12_newName_72 : decode cX12_newName 72 = .ok (.iastore, 1) := by decide +kernel
theorem dX12_newName_73 : decode cX12_newName 73 = .ok (.iinc 2 1, 3) := by decide +kernel
theorem dX12_newName_76 : decode cX12_newName 76 = .ok (.goto (-31), 3) := by decide +kernel
theorem dX12_newName_79 : decode cX12_newName 79 = .ok (.aload_n 0, 1) := by decide +kernel
theorem dX12_newName_80 : decode cX12_newName 80 = .ok (.getfield 23, 3) := by decide +kernel
theorem dX12_newName_83 : decode cX12_newName 83 = .ok (.bipush 37, 2) := by decide +kernel
theorem dX12_newName_85 : decode cX12_newName 85 = .ok (.iload_n 1, 1) := by decide +kernel
theorem dX12_newName_86 : decode cX12_newName 86 = .ok (.iadd, 1) := by decide +kernel
theorem dX12_newName_87 : decode cX12_newName 87 = .ok (.aload_n 0, 1) := by decide +kernel
theorem dX12_newName_88 : decode cX12_newName 88 = .ok (.getfield 107, 3) := by decide +kernel
theorem dX12_newName_91 : decode cX12_newName 91 = .ok (.iastore, 1) := by decide +kernel
theorem dX12_newName_92 : decode cX12_newName 92 = .ok (.aload_n 0, 1) := by decide +kernel
theorem dX12_newName_93 : decode cX12_newName 93 = .ok (.invokevirtual 144, 3) := by decide +kernel
theorem dX12_newName_96 : decode cX12_newName 96 = .ok (.return_, 1) := by decide +kernel
theorem dX12_numberHere_0 : decode cX12_numberHere 0 = .ok (.aload_n 0, 1) := by decide +kernel
theorem dX12_numberHere_1 : decode cX12_numberHere 1 = .ok (.getfield 123, 3) := by decide +kernel
theorem dX12_numberHere_4 : decode cX12_numberHere 4 = .ok (.ifCond .eq 5, 3) := by decide +kernel
theorem dX12_numberHere_7 : decode cX12_numberHere 7 = .ok (.iload_n 1, 1) := by decide +kernel
theorem dX12_numberHere_8 : decode cX12_numberHere 8 = .ok (.ireturn, 1) := by decide +kernel
theorem dX12_numberHere_9 : decode cX12_numberHere 9 = .ok (.aload_n 0, 1) := by decide +kernel
theorem dX12_numberHere_10 : decode cX12_numberHere 10 = .ok (.getfield 113, 3) := by decide +kernel
theorem dX12_numberHere_13 : decode cX12_numberHere 13 = .ok (.iconst 3, 1) := by decide +kernel
theorem dX12_numberHere_14 : decode cX12_numberHere 14 = .ok (.if_icmp .eq 15, 3) := by decide +kernel
theorem dX12_numberHere_17 : decode cX12_numberHere 17 = .ok (.aload_n 0, 1) := by decide +kernel
theorem dX12_numberHere_18 : decode cX12_numberHere 18 = .ok (.iconst 1, 1) := by decide +kernel
theorem dX12_numberHere_19 : decode cX12_numberHere 19 = .ok (.aload_n 0, 1) := by decide +kernel
theorem dX12_numberHere_20 : decode cX12_numberHere 20 = .ok (.getfield 104, 3) := by decide +kernel
theorem dX12_numberHere_23 : decode cX12_numberHere 23 = .ok (.invokevirtual 150, 3) := by decide +kernel
theorem dX12_numberHere_26 : decode cX12_numberHere 26 = .ok (.goto 24, 3) := by decide +kernel
theorem dX12_numberHere_29 : decode cX12_numberHere 29 = .ok (.aload_n 0, 1) := by decide +kernel
theorem dX12_numberHere_30 : decode cX12_numberHere 30 = .ok (.getfield 110, 3) := by decide +kernel
theorem dX12_numberHere_33 : decode cX12_numberHere 33 = .ok (.iload_n 1, 1) := by decide +kernel
theorem dX12_numberHere_34 : decode cX12_numberHere 34 = .ok (.iload_n 2, 1) := by decide +kernel
theorem dX12_numberHere_35 : decode cX12_numberHere 35 = .ok (.invokestatic 168, 3) := by decide +kernel
theorem dX12_numberHere_38 : decode cX12_numberHere 38 = .ok (.ifCond .ne 12, 3) := by decide +kernel
theorem dX12_numberHere_41 : decode cX12_numberHere 41 = .ok (.aload_n 0, 1) := by decide +kernel
theorem dX12_numberHere_42 : decode cX12_numberHere 42 = .ok (.iconst 4, 1) := by decide +kernel
theorem dX12_numberHere_43 : decode cX12_numberHere 43 = .ok (.aload_n 0, 1) := by decide +kernel
theorem dX12_numberHere_44 : decode cX12_numberHere 44 = .ok (.getfield 104, 3) := by decide +kernel
theorem dX12_numberHere_47 : decode cX12_numberHere 47 = .ok (.invokevirtual 150, 3) := by decide +kernel
theorem dX12_numberHere_50 : decode cX12_numberHere 50 = .ok (.aload_n 0, 1) := by decide +kernel
theorem dX12_numberHere_51 : decode cX12_numberHere 51 = .ok (.getfield 123, 3) := by decide +kernel
theorem dX12_numberHere_54 : decode cX12_numberHere 54 = .ok (.ifCond .eq 7, 3) := by decide +kernel
theorem dX12_numberHere_57 : decode cX12_numberHere 57 = .ok (.iload_n 1, 1) := by decide +kernel
theorem dX12_numberHere_58 : decode cX12_numberHere 58 = .ok (.goto 7, 3) := by decide +kernel
theorem dX12_numberHere_61 : decode cX12_numberHere 61 = .ok (.aload_n 0, 1) := by decide +kernel
theorem dX12_numberHere_62 : decode cX12_numberHere 62 = .ok (.getfield 110, 3) := by decide +kernel
theorem dX12_numberHere_65 : decode cX12_numberHere 65 = .ok (.ireturn, 1) := by decide +kernel
theorem dX12_number_0 : decode cX12_number 0 = .ok (.aload_n 0, 1) := by decide +kernel
theorem dX12_number_1 : decode cX12_number 1 = .ok (.iload_n 1, 1) := by decide +kernel
theorem dX12_number_2 : decode cX12_number 2 = .ok (.iload_n 2, 1) := by decide +kernel
theorem dX12_number_3 : decode cX12_number 3 = .ok (.invokevirtual 172, 3) := by decide +kernel
theorem dX12_number_6 : decode cX12_number 6 = .ok (.istore_n 3, 1) := by decide +kernel
theorem dX12_number_7 : decode cX12_number 7 = .ok (.aload_n 0, 1) := by decide +kernel
theorem dX12_number_8 : decode cX12_number 8 = .ok (.getfield 123, 3) := by decide +kernel
theorem dX12_number_11 : decode cX12_number 11 = .ok (.ifCond .ne 7, 3) := by decide +kernel
theorem dX12_number_14 : decode cX12_number 14 = .ok (.aload_n 0, 1) := by decide +kernel
theorem dX12_number_15 : decode cX12_number 15 = .ok (.invokevirtual 144, 3) := by decide +kernel
theorem dX12_number_18 : decode cX12_number 18 = .ok (.iload_n 3, 1) := by decide +kernel
theorem dX12_number_19 : decode cX12_number 19 = .ok (.ireturn, 1) := by decide +kernel
theorem dX12_mustComma_0 : decode cX12_mustComma 0 = .ok (.aload_n 0, 1) := by decide +kernel
theorem dX12_mustComma_1 : decode cX12_mustComma 1 = .ok (.getfield 123, 3) := by decide +kernel
theorem dX12_mustComma_4 : decode cX12_mustComma 4 = .ok (.ifCond .eq 4, 3) := by decide +kernel
theorem dX12_mustComma_7 : decode cX12_mustComma 7 = .ok (.return_, 1) := by decide +kernel
theorem dX12_mustComma_8 : decode cX12_mustComma 8 = .ok (.aload_n 0, 1) := by decide +kernel
theorem dX12_mustComma_9 : decode cX12_mustComma 9 = .ok (.getfield 113, 3) := by decide +kernel
theorem dX12_mustComma_12 : decode cX12_mustComma 12 = .ok (.bipush 44, 2) := by decide +kernel
theorem dX12_mustComma_14 : decode cX12_mustComma 14 = .ok (.if_icmp .ne 10, 3) := by decide +kernel
theorem dX12_mustComma_17 : decode cX12_mustComma 17 = .ok (.aload_n 0, 1) := by decide +kernel
theorem dX12_mustComma_18 : decode cX12_mustComma 18 = .ok (.invokevirtual 144, 3) := by decide +kernel
theorem dX12_mustComma_21 : decode cX12_mustComma 21 = .ok (.goto 12, 3) := by decide +kernel
theorem dX12_mustComma_24 : decode cX12_mustComma 24 = .ok (.aload_n 0, 1) := by decide +kernel
theorem dX12_mustComma_25 : decode cX12_mustComma 25 = .ok (.iconst 1, 1) := by decide +kernel
theorem dX12_mustComma_26 : decode cX12_mustComma 26 = .ok (.aload_n 0, 1) := by decide +kernel
theorem dX12_mustComma_27 : decode cX12_mustComma 27 = .ok (.getfield 104, 3) := by decide +kernel
theorem dX12_mustComma_30 : decode cX12_mustComma 30 = .ok (.invokevirtual 150, 3) := by decide +kernel
theorem dX12_mustComma_33 : decode cX12_mustComma 33 = .ok (.return_, 1) := by decide +kernel
theorem dX12_table_0 : decode cX12_table 0 = .ok (.aload_n 0, 1) := by decide +kernel
theorem dX12_table_1 : decode cX12_table 1 = .ok (.invokevirtual 176, 3) := by decide +kernel
theorem dX12_table_4 : decode cX12_table 4 = .ok (.iload_n 1, 1) := by decide +kernel
theorem dX12_table_5 : decode cX12_table 5 = .ok (.iconst 0, 1) := by decide +kernel
theorem dX12_table_6 : decode cX12_table 6 = .ok (.aload_n 0, 1) := by decide +kernel
theorem dX12_table_7 : decode cX12_table 7 = .ok (.getfield 91, 3) := by decide +kernel
theorem dX12_table_10 : decode cX12_table 10 = .ok (.invokestatic 168, 3) := by decide +kernel
theorem dX12_table_13 : decode cX12_table 13 = .ok (.ifCond .ne 9, 3) := by decide +kernel
theorem dX12_table_16 : decode cX12_table 16 = .ok (.aload_n 0, 1) := by decide +kernel
theorem dX12_table_17 : decode cX12_table 17 = .ok (.iconst 2, 1) := by decide +kernel
theorem dX12_table_18 : decode cX12_table 18 = .ok (.invokevirtual 179, 3) := by decide +kernel
theorem dX12_table_21 : decode cX12_table 21 = .ok (.ireturn, 1) := by decide +kernel
theorem dX12_table_22 : decode cX12_table 22 = .ok (.aload_n 0, 1) := by decide +kernel
theorem dX12_table_23 : decode cX12_table 23 = .ok (.iconst 0, 1) := by decide +kernel
theorem dX12_table_24 : decode cX12_table 24 = .ok (.putfield 91, 3) := by decide +kernel
theorem dX12_table_27 : decode cX12_table 27 = .ok (.aload_n 0, 1) := by decide +kernel
theorem dX12_table_28 : decode cX12_table 28 = .ok (.iconst 0, 1) := by decide +kernel
theorem dX12_table_29 : decode cX12_table 29 = .ok (.putfield 127, 3) := by decide +kernel
theorem dX12_table_32 : decode cX12_table 32 = .ok (.aload_n 0, 1) := by decide +kernel
theorem dX12_table_33 : decode cX12_table 33 = .ok (.iconst 0, 1) := by decide +kernel
theorem dX12_table_34 : decode cX12_table 34 = .ok (.putfield 123, 3) := by decide +kernel
theorem dX12_table_37 : decode cX12_table 37 = .ok (.iconst 0, 1) := by decide +kernel
theorem dX12_table_38 : decode cX12_table 38 = .ok (.istore_n 2, 1) := by decide +kernel
theorem dX12_table_39 : decode cX12_table 39 = .ok (.iload_n 2, 1) := by decide +kernel
theorem dX12_table_40 : decode cX12_table 40 = .ok (.bipush 100, 2) := by decide +kernel
theorem dX12_table_42 : decode cX12_table 42 = .ok (.if_icmp .ge 16, 3) := by decide +kernel
theorem dX12_table_45 : decode cX12_table 45 = .ok (.aload_n 0, 1) := by decide +kernel
theorem dX12_table_46 : decode cX12_table 46 = .ok (.getfield 23, 3) := by decide +kernel
theorem dX12_table_49 : decode cX12_table 49 = .ok (.iload_n 2, 1) := by decide +kernel
theorem dX12_table_50 : decode cX12_table 50 = .ok (.iconst 0, 1) := by decide +kernel
theorem dX12_table_51 : decode cX12_table 51 = .ok (.iastore, 1) := by decide +kernel
theorem dX12_table_52 : decode cX12_table 52 = .ok (.iinc 2 1, 3) := by decide +kernel
theorem dX12_table_55 : decode cX12_table 55 = .ok (.goto (-16), 3) := by decide +kernel
theorem dX12_table_58 : decode cX12_table 58 = .ok (.iconst 0, 1) := by decide +kernel
theorem dX12_table_59 : decode cX12_table 59 = .ok (.istore_n 2, 1) := by decide +kernel
theorem dX12_table_60 : decode cX12_table 60 = .ok (.iload_n 2, 1) := by decide +kernel
theorem dX12_table_61 : decode cX12_table 61 = .ok (.bipush 16, 2) := by decide +kernel
theorem dX12_table_63 : decode cX12_table 63 = .ok (.if_icmp .ge 16, 3) := by decide +kernel
theorem dX12_table_66 : decode cX12_table 66 = .ok (.aload_n 0, 1) := by decide +kernel
theorem dX12_table_67 : decode cX12_table 67 = .ok (.getfield 29, 3) := by decide +kernel
theorem dX12_table_70 : decode cX12_table 70 = .ok (.iload_n 2, 1) := by decide +kernel
theorem dX12_table_71 : decode cX12_table 71 = .ok (.iconst 0, 1) := by decide +kernel
theorem dX12_table_72 : decode cX12_table 72 = .ok (.iastore, 1) := by decide +kernel
theorem dX12_table_73 : decode cX12_table 73 = .ok (.iinc 2 1, 3) := by decide +kernel
theorem dX12_table_76 : decode cX12_table 76 = .ok (.goto (-16), 3) := by decide +kernel
theorem dX12_table_79 : decode cX12_table 79 = .ok (.aload_n 0, 1) := by decide +kernel
theorem dX12_table_80 : decode cX12_table 80 = .ok (.iload_n 1, 1) := by decide +kernel
theorem dX12_table_81 : decode cX12_table 81 = .ok (.putfield 94, 3) := by decide +kernel
theorem dX12_table_84 : decode cX12_table 84 = .ok (.aload_n 0, 1) := by decide +kernel
theorem dX12_table_85 : decode cX12_table 85 = .ok (.iconst 0, 1) := by decide +kernel
theorem dX12_table_86 : decode cX12_table 86 = .ok (.putfield 97, 3) := by decide +kernel
theorem dX12_table_89 : decode cX12_table 89 = .ok (.aload_n 0, 1) := by decide +kernel
theorem dX12_table_90 : decode cX12_table 90 = .ok (.invokevirtual 144, 3) := by decide +kernel
theorem dX12_table_93 : decode cX12_table 93 = .ok (.aload_n 0, 1) := by decide +kernel
theorem dX12_table_94 : decode cX12_table 94 = .ok (.invokevirtual 182, 3) := by decide +kernel
theorem dX12_table_97 : decode cX12_table 97 = .ok (.aload_n 0, 1) := by decide +kernel
theorem dX12_table_98 : decode cX12_table 98 = .ok (.getfield 123, 3) := by decide +kernel
theorem dX12_table_101 : decode cX12_table 101 = .ok (.ifCond .ne 23, 3) := by decide +kernel
theorem dX12_table_104 : decode cX12_table 104 = .ok (.aload_n 0, 1) := by decide +kernel
theorem dX12_table_105 : decode cX12_table 105 = .ok (.getfield 113, 3) := by decide +kernel
theorem dX12_table_108 : decode cX12_table 108 = .ok (.bipush 59, 2) := by decide +kernel
theorem dX12_table_110 : decode cX12_table 110 = .ok (.if_icmp .ne 14, 3) := by decide +kernel
theorem dX12_table_113 : decode cX12_table 113 = .ok (.aload_n 0, 1) := by decide +kernel
theorem dX12_table_114 : decode cX12_table 114 = .ok (.invokevirtual 144, 3) := by decide +kernel
theorem dX12_table_117 : decode cX12_table 117 = .ok (.aload_n 0, 1) := by decide +kernel
theorem dX12_table_118 : decode cX12_table 118 = .ok (.invokevirtual 182, 3) := by decide +kernel
theorem dX12_table_121 : decode cX12_table 121 = .ok (.goto (-24), 3) := by decide +kernel
theorem dX12_table_124 : decode cX12_table 124 = .ok (.aload_n 0, 1) := by decide +kernel
theorem dX12_table_125 : decode cX12_table 125 = .ok (.getfield 123, 3) := by decide +kernel
theorem dX12_table_128 : decode cX12_table 128 = .ok (.ifCond .ne 19, 3) := by decide +kernel
theorem dX12_table_131 : decode cX12_table 131 = .ok (.aload_n 0, 1) := by decide +kernel
theorem dX12_table_132 : decode cX12_table 132 = .ok (.getfield 113, 3) := by decide +kernel
theorem dX12_table_135 : decode cX12_table 135 = .ok (.ifCond .eq 12, 3) := by decide +kernel
theorem dX12_table_138 : decode cX12_table 138 = .ok (.aload_n 0, 1) := by decide +kernel
theorem dX12_table_139 : decode cX12_table 139 = .ok (.iconst 1, 1) := by decide +kernel
theorem dX12_table_140 : decode cX12_table 140 = .ok (.aload_n 0, 1) := by decide +kernel
theorem dX12_table_141 : decode cX12_table 141 = .ok (.getfield 104, 3) := by decide +kernel
theorem dX12_table_144 : decode cX12_table 144 = .ok (.invokevirtual 150, 3) := by decide +kernel
theorem dX12_table_147 : decode cX12_table 147 = .ok (.aload_n 0, 1) := by decide +kernel
theorem dX12_table_148 : decode cX12_table 148 = .ok (.getfield 123, 3) := by decide +kernel
theorem dX12_table_151 : decode cX12_table 151 = .ok (.ifCond .ne 40, 3) := by decide +kernel
theorem dX12_table_154 : decode cX12_table 154 = .ok (.aload_n 0, 1) := by decide +kernel
theorem dX12_table_155 : decode cX12_table 155 = .ok (.getfield 23, 3) := by decide +kernel
theorem dX12_table_158 : decode cX12_table 158 = .ok (.iconst 0, 1) := by decide +kernel
theorem dX12_table_159 : decode cX12_table 159 = .ok (.iaload, 1) := by decide +kernel
theorem dX12_table_160 : decode cX12_table 160 = .ok (.ifCond .eq 21, 3) := by decide +kernel
theorem dX12_table_163 : decode cX12_table 163 = .ok (.aload_n 0, 1) := by decide +kernel
theorem dX12_table_164 : decode cX12_table 164 = .ok (.getfield 23, 3) := by decide +kernel
theorem dX12_table_167 : decode cX12_table 167 = .ok (.iconst 3, 1) := by decide +kernel
theorem dX12_table_168 : decode cX12_table 168 = .ok (.iaload, 1) := by decide +kernel
theorem dX12_table_169 : decode cX12_table 169 = .ok (.ifCond .eq 12, 3) := by decide +kernel
theorem dX12_table_172 : decode cX12_table 172 = .ok (.aload_n 0, 1) := by decide +kernel
theorem dX12_table_173 : decode cX12_table 173 = .ok (.getfield 23, 3) := by decide +kernel
theorem dX12_table_176 : decode cX12_table 176 = .ok (.iconst 4, 1) := by decide +kernel
theorem dX12_table_177 : decode cX12_table 177 = .ok (.iaload, 1) := by decide +kernel
theorem dX12_table_178 : decode cX12_table 178 = .ok (.ifCond .ne 13, 3) := by decide +kernel
theorem dX12_table_181 : decode cX12_table 181 = .ok (.aload_n 0, 1) := by decide +kernel
theorem dX12_table_182 : decode cX12_table 182 = .ok (.bipush 6, 2) := by decide +kernel
theorem dX12_table_184 : decode cX12_table 184 = .ok (.aload_n 0, 1) := by decide +kernel
theorem dX12_table_185 : decode cX12_table 185 = .ok (.getfield 104, 3) := by decide +kernel
theorem dX12_table_188 : decode cX12_table 188 = .ok (.invokevirtual 150, 3) := by decide +kernel
theorem dX12_table_191 : decode cX12_table 191 = .ok (.aload_n 0, 1) := by decide +kernel
theorem dX12_table_192 : decode cX12_table 192 = .ok (.getfield 123, 3) := by decide +kernel
theorem dX12_table_195 : decode cX12_table 195 = .ok (.ifCond .eq 24, 3) := by decide +kernel
theorem dX12_table_198 : decode cX12_table 198 = .ok (.aload_n 0, 1) := by decide +kernel
theorem dX12_table_199 : decode cX12_table 199 = .ok (.getfield 185, 3) := by decide +kernel
theorem dX12_table_202 : decode cX12_table 202 = .ok (.ifCond .eq 11, 3) := by decide +kernel
theorem dX12_table_205 : decode cX12_table 205 = .ok (.aload_n 0, 1) := by decide +kernel
theorem dX12_table_206 : decode cX12_table 206 = .ok (.aload_n 0, 1) := by decide +kernel
theorem dX12_table_207 : decode cX12_table 207 = .ok (.getfield 20, 3) := by decide +kernel
theorem dX12_table_210 : decode cX12_table 210 = .ok (.invokevirtual 188, 3) := by decide +kernel
theorem dX12_table_213 : decode cX12_table 213 = .ok (.aload_n 0, 1) := by decide +kernel
theorem dX12_table_214 : decode cX12_table 214 = .ok (.iconst 4, 1) := by decide +kernel
theorem dX12_table_215 : decode cX12_table 215 = .ok (.invokevirtual 179, 3) := by decide +kernel
theorem dX12_table_218 : decode cX12_table 218 = .ok (.ireturn, 1) := by decide +kernel
theorem dX12_table_219 : decode cX12_table 219 = .ok (.aload_n 0, 1) := by decide +kernel
theorem dX12_table_220 : decode cX12_table 220 = .ok (.getfield 23, 3) := by decide +kernel
theorem dX12_table_223 : decode cX12_table 223 = .ok (.iconst 0, 1) := by decide +kernel
theorem dX12_table_224 : decode cX12_table 224 = .ok (.aload_n 0, 1) := by decide +kernel
theorem dX12_table_225 : decode cX12_table 225 = .ok (.getfield 20, 3) := by decide +kernel
theorem dX12_table_228 : decode cX12_table 228 = .ok (.iconst 0, 1) := by decide +kernel
theorem dX12_table_229 : decode cX12_table 229 = .ok (.bipush 100, 2) := by decide +kernel
theorem dX12_table_231 : decode cX12_table 231 = .ok (.invokestatic 192, 3) := by decide +kernel
theorem dX12_table_234 : decode cX12_table 234 = .ok (.aload_n 0, 1) := by decide +kernel
theorem dX12_table_235 : decode cX12_table 235 = .ok (.getfield 29, 3) := by decide +kernel
theorem dX12_table_238 : decode cX12_table 238 = .ok (.iconst 0, 1) := by decide +kernel
theorem dX12_table_239 : decode cX12_table 239 = .ok (.aload_n 0, 1) := by decide +kernel
theorem dX12_table_240 : decode cX12_table 240 = .ok (.getfield 26, 3) := by decide +kernel
theorem dX12_table_243 : decode cX12_table 243 = .ok (.iconst 0, 1) := by decide +kernel
theorem dX12_table_244 : decode cX12_table 244 = .ok (.bipush 16, 2) := by decide +kernel
theorem dX12_table_246 : decode cX12_table 246 = .ok (.invokestatic 192, 3) := by decide +kernel
theorem dX12_table_249 : decode cX12_table 249 = .ok (.aload_n 0, 1) := by decide +kernel
theorem dX12_table_250 : decode cX12_table 250 = .ok (.iconst 1, 1) := by decide +kernel
theorem dX12_table_251 : decode cX12_table 251 = .ok (.putfield 185, 3) := by decide +kernel
theorem dX12_table_254 : decode cX12_table 254 = .ok (.aload_n 0, 1) := by decide +kernel
theorem dX12_table_255 : decode cX12_table 255 = .ok (.iconst 0, 1) := by decide +kernel
theorem dX12_table_256 : decode cX12_table 256 = .ok (.putfield 196, 3) := by decide +kernel
theorem dX12_table_259 : decode cX12_table 259 = .ok (.aload_n 0, 1) := by decide +kernel
theorem dX12_table_260 : decode cX12_table 260 = .ok (.iconst 0, 1) := by decide +kernel
theorem dX12_table_261 : decode cX12_table 261 = .ok (.putfield 199, 3) := by decide +kernel
theorem dX12_table_264 : decode cX12_table 264 = .ok (.aload_n 0, 1) := by decide +kernel
theorem dX12_table_265 : decode cX12_table 265 = .ok (.aload_n 0, 1) := by decide +kernel
theorem dX12_table_266 : decode cX12_table 266 = .ok (.getfield 20, 3) := by decide +kernel
theorem dX12_table_269 : decode cX12_table 269 = .ok (.invokevirtual 188, 3) := by decide +kernel
theorem dX12_table_272 : decode cX12_table 272 = .ok (.aload_n 0, 1) := by decide +kernel
theorem dX12_table_273 : decode cX12_table 273 = .ok (.invokevirtual 202, 3) := by decide +kernel
theorem dX12_table_276 : decode cX12_table 276 = .ok (.aload_n 0, 1) := by decide +kernel
theorem dX12_table_277 : decode cX12_table 277 = .ok (.getfield 205, 3) := by decide +kernel
theorem dX12_table_280 : decode cX12_table 280 = .ok (.ireturn, 1) := by decide +kernel
theorem dX12_begins_0 : decode cX12_begins 0 = .ok (.aload_n 0, 1) := by decide +kernel
theorem dX12_begins_1 : decode cX12_begins 1 = .ok (.aload_n 1, 1) := by decide +kernel
theorem dX12_begins_2 : decode cX12_begins 2 = .ok (.invokevirtual 140, 3) := by decide +kernel
theorem dX12_begins_5 : decode cX12_begins 5 = .ok (.ifCond .ne 5, 3) := by decide +kernel
theorem dX12_begins_8 : decode cX12_begins 8 = .ok (.iconst 0, 1) := by decide +kernel
theorem dX12_begins_9 : decode cX12_begins 9 = .ok (.ireturn, 1) := by decide +kernel
theorem dX12_begins_10 : decode cX12_begins 10 = .ok (.iload_n 2, 1) := by decide +kernel
theorem dX12_begins_11 : decode cX12_begins 11 = .ok (.ifCond .ne 13, 3) := by decide +kernel
theorem dX12_begins_14 : decode cX12_begins 14 = .ok (.aload_n 0, 1) := by decide +kernel
theorem dX12_begins_15 : decode cX12_begins 15 = .ok (.iload 4, 2) := by decide +kernel
theorem dX12_begins_17 : decode cX12_begins 17 = .ok (.aload_n 0, 1) := by decide +kernel
theorem dX12_begins_18 : decode cX12_begins 18 = .ok (.getfield 104, 3) := by decide +kernel
theorem dX12_begins_21 : decode cX12_begins 21 = .ok (.invokevirtual 150, 3) := by decide +kernel
theorem dX12_begins_24 : decode cX12_begins 24 = .ok (.iload_n 3, 1) := by decide +kernel
theorem dX12_begins_25 : decode cX12_begins 25 = .ok (.ifCond .ne 13, 3) := by decide +kernel
theorem dX12_begins_28 : decode cX12_begins 28 = .ok (.aload_n 0, 1) := by decide +kernel
theorem dX12_begins_29 : decode cX12_begins 29 = .ok (.bipush 6, 2) := by decide +kernel
theorem dX12_begins_31 : decode cX12_begins 31 = .ok (.aload_n 0, 1) := by decide +kernel
theorem dX12_begins_32 : decode cX12_begins 32 = .ok (.getfield 104, 3) := by decide +kernel
theorem dX12_begins_35 : decode cX12_begins 35 = .ok (.invokevirtual 150, 3) := by decide +kernel
theorem dX12_begins_38 : decode cX12_begins 38 = .ok (.aload_n 0, 1) := by decide +kernel
theorem dX12_begins_39 : decode cX12_begins 39 = .ok (.getfield 123, 3) := by decide +kernel
theorem dX12_begins_42 : decode cX12_begins 42 = .ok (.ifCond .ne 7, 3) := by decide +kernel
theorem dX12_begins_45 : decode cX12_begins 45 = .ok (.aload_n 0, 1) := by decide +kernel
theorem dX12_begins_46 : decode cX12_begins 46 = .ok (.invokevirtual 144, 3) := by decide +kernel
theorem dX12_begins_49 : decode cX12_begins 49 = .ok (.iconst 1, 1) := by decide +kernel
theorem dX12_begins_50 : decode cX12_begins 50 = .ok (.ireturn, 1) := by decide +kernel
theorem dX12_readLine_0 : decode cX12_readLine 0 = .ok (.aload_n 0, 1) := by decide +kernel
theorem dX12_readLine_1 : decode cX12_readLine 1 = .ok (.getfield 29, 3) := by decide +kernel
theorem dX12_readLine_4 : decode cX12_readLine 4 = .ok (.iconst 0, 1) := by decide +kernel
theorem dX12_readLine_5 : decode cX12_readLine 5 = .ok (.iaload, 1) := by decide +kernel
theorem dX12_readLine_6 : decode cX12_readLine 6 = .ok (.ifCond .ne 7, 3) := by decide +kernel
theorem dX12_readLine_9 : decode cX12_readLine 9 = .ok (.iconst 1, 1) := by decide +kernel
theorem dX12_readLine_10 : decode cX12_readLine 10 = .ok (.goto 4, 3) := by decide +kernel
theorem dX12_readLine_13 : decode cX12_readLine 13 = .ok (.iconst 0, 1) := by decide +kernel
theorem dX12_readLine_14 : decode cX12_readLine 14 = .ok (.istore_n 1, 1) := by decide +kernel
theorem dX12_readLine_15 : decode cX12_readLine 15 = .ok (.aload_n 0, 1) := by decide +kernel
theorem dX12_readLine_16 : decode cX12_readLine 16 = .ok (.ldc 154, 2) := by decide +kernel
theorem dX12_readLine_18 : decode cX12_readLine 18 = .ok (.aload_n 0, 1) := by decide +kernel
theorem dX12_readLine_19 : decode cX12_readLine 19 = .ok (.getfield 23, 3) := by decide +kernel
theorem dX12_readLine_22 : decode cX12_readLine 22 = .ok (.iconst 0, 1) := by decide +kernel
theorem dX12_readLine_23 : decode cX12_readLine 23 = .ok (.iaload, 1) := by decide +kernel
theorem dX12_readLine_24 : decode cX12_readLine 24 = .ok (.ifCond .ne 7, 3) := by decide +kernel
theorem dX12_readLine_27 : decode cX12_readLine 27 = .ok (.iconst 1, 1) := by decide +kernel
theorem dX12_readLine_28 : decode cX12_readLine 28 = .ok (.goto 4, 3) := by decide +kernel
theorem dX12_readLine_31 : decode cX12_readLine 31 = .ok (.iconst 0, 1) := by decide +kernel
theorem dX12_readLine_32 : decode cX12_readLine 32 = .ok (.iconst 1, 1) := by decide +kernel
theorem dX12_readLine_33 : decode cX12_readLine 33 = .ok (.iconst 3, 1) := by decide +kernel
theorem dX12_readLine_34 : decode cX12_readLine 34 = .ok (.invokevirtual 208, 3) := by decide +kernel
theorem dX12_readLine_37 : decode cX12_readLine 37 = .ok (.ifCond .eq 10, 3) := by decide +kernel
theorem dX12_readLine_40 : decode cX12_readLine 40 = .ok (.aload_n 0, 1) := by decide +kernel
theorem dX12_readLine_41 : decode cX12_readLine 41 = .ok (.invokevirtual 212, 3) := by decide +kernel
theorem dX12_readLine_44 : decode cX12_readLine 44 = .ok (.goto 145, 3) := by decide +kernel
theorem dX12_readLine_47 : decode cX12_readLine 47 = .ok (.aload_n 0, 1) := by decide +kernel
theorem dX12_readLine_48 : decode cX12_readLine 48 = .ok (.ldc 156, 2) := by decide +kernel
theorem dX12_readLine_50 : decode cX12_readLine 50 = .ok (.aload_n 0, 1) := by decide +kernel
theorem dX12_readLine_51 : decode cX12_readLine 51 = .ok (.getfield 23, 3) := by decide +kernel
theorem dX12_readLine_54 : decode cX12_readLine 54 = .ok (.iconst 3, 1) := by decide +kernel
theorem dX12_readLine_55 : decode cX12_readLine 55 = .ok (.iaload, 1) := by decide +kernel
theorem dX12_readLine_56 : decode cX12_readLine 56 = .ok (.iconst 3, 1) := by decide +kernel
theorem dX12_readLine_57 : decode cX12_readLine 57 = .ok (.if_icmp .ge 7, 3) := by decide +kernel
theorem dX12_readLine_60 : decode cX12_readLine 60 = .ok (.iconst 1, 1) := by decide +kernel
theorem dX12_readLine_61 : decode cX12_readLine 61 = .ok (.goto 4, 3) := by decide +kernel
theorem dX12_readLine_64 : decode cX12_readLine 64 = .ok (.iconst 0, 1) := by decide +kernel
theorem dX12_readLine_65 : decode cX12_readLine 65 = .ok (.iload_n 1, 1) := by decide +kernel
theorem dX12_readLine_66 : decode cX12_readLine 66 = .ok (.iconst 5, 1) := by decide +kernel
theorem dX12_readLine_67 : decode cX12_readLine 67 = .ok (.invokevirtual 208, 3) := by decide +kernel
theorem dX12_readLine_70 : decode cX12_readLine 70 = .ok (.ifCond .eq 10, 3) := by decide +kernel
theorem dX12_readLine_73 : decode cX12_readLine 73 = .ok (.aload_n 0, 1) := by decide +kernel
theorem dX12_readLine_74 : decode cX12_readLine 74 = .ok (.invokevirtual 215, 3) := by decide +kernel
theorem dX12_readLine_77 : decode cX12_readLine 77 = .ok (.goto 112, 3) := by decide +kernel
theorem dX12_readLine_80 : decode cX12_readLine 80 = .ok (.aload_n 0, 1) := by decide +kernel
theorem dX12_readLine_81 : decode cX12_readLine 81 = .ok (.ldc 157, 2) := by decide +kernel
theorem dX12_readLine_83 : decode cX12_readLine 83 = .ok (.iconst 1, 1) := by decide +kernel
theorem dX12_readLine_84 : decode cX12_readLine 84 = .ok (.iload_n 1, 1) := by decide +kernel
theorem dX12_readLine_85 : decode cX12_readLine 85 = .ok (.iconst 1, 1) := by decide +kernel
theorem dX12_readLine_86 : decode cX12_readLine 86 = .ok (.invokevirtual 208, 3) := by decide +kernel
theorem dX12_readLine_89 : decode cX12_readLine 89 = .ok (.ifCond .eq 10, 3) := by decide +kernel
theorem dX12_readLine_92 : decode cX12_readLine 92 = .ok (.aload_n 0, 1) := by decide +kernel
theorem dX12_readLine_93 : decode cX12_readLine 93 = .ok (.invokevirtual 218, 3) := by decide +kernel
theorem dX12_readLine_96 : decode cX12_readLine 96 = .ok (.goto 93, 3) := by decide +kernel
theorem dX12_readLine_99 : decode cX12_readLine 99 = .ok (.aload_n 0, 1) := by decide +kernel
theorem dX12_readLine_100 : decode cX12_readLine 100 = .ok (.ldc 159, 2) := by decide +kernel
theorem dX12_readLine_102 : decode cX12_readLine 102 = .ok (.aload_n 0, 1) := by decide +kernel
theorem dX12_readLine_103 : decode cX12_readLine 103 = .ok (.getfield 23, 3) := by decide +kernel
theorem dX12_readLine_106 : decode cX12_readLine 106 = .ok (.iconst 4, 1) := by decide +kernel
theorem dX12_readLine_107 : decode cX12_readLine 107 = .ok (.iaload, 1) := by decide +kernel
theorem dX12_readLine_108 : decode cX12_readLine 108 = .ok (.iconst 4, 1) := by decide +kernel
theorem dX12_readLine_109 : decode cX12_readLine 109 = .ok (.if_icmp .ge 7, 3) := by decide +kernel
theorem dX12_readLine_112 : decode cX12_readLine 112 = .ok (.iconst 1, 1) := by decide +kernel
theorem dX12_readLine_113 : decode cX12_readLine 113 = .ok (.goto 4, 3) := by decide +kernel
theorem dX12_readLine_116 : decode cX12_readLine 116 = .ok (.iconst 0, 1) := by decide +kernel
theorem dX12_readLine_117 : decode cX12_readLine 117 = .ok (.iload_n 1, 1) := by decide +kernel
theorem dX12_readLine_118 : decode cX12_readLine 118 = .ok (.iconst 5, 1) := by decide +kernel
theorem dX12_readLine_119 : decode cX12_readLine 119 = .ok (.invokevirtual 208, 3) := by decide +kernel
theorem dX12_readLine_122 : decode cX12_readLine 122 = .ok (.ifCond .eq 10, 3) := by decide +kernel
theorem dX12_readLine_125 : decode cX12_readLine 125 = .ok (.aload_n 0, 1) := by decide +kernel
theorem dX12_readLine_126 : decode cX12_readLine 126 = .ok (.invokevirtual 221, 3) := by decide +kernel
theorem dX12_readLine_129 : decode cX12_readLine 129 = .ok (.goto 60, 3) := by decide +kernel
theorem dX12_readLine_132 : decode cX12_readLine 132 = .ok (.aload_n 0, 1) := by decide +kernel
theorem dX12_readLine_133 : decode cX12_readLine 133 = .ok (.ldc 160, 2) := by decide +kernel
theorem dX12_readLine_135 : decode cX12_readLine 135 = .ok (.aload_n 0, 1) := by decide +kernel
theorem dX12_readLine_136 : decode cX12_readLine 136 = .ok (.getfield 29, 3) := by decide +kernel
theorem dX12_readLine_139 : decode cX12_readLine 139 = .ok (.iconst 0, 1) := by decide +kernel
theorem dX12_readLine_140 : decode cX12_readLine 140 = .ok (.iaload, 1) := by decide +kernel
theorem dX12_readLine_141 : decode cX12_readLine 141 = .ok (.bipush 8, 2) := by decide +kernel
theorem dX12_readLine_143 : decode cX12_readLine 143 = .ok (.if_icmp .ge 7, 3) := by decide +kernel
theorem dX12_readLine_146 : decode cX12_readLine 146 = .ok (.iconst 1, 1) := by decide +kernel
theorem dX12_readLine_147 : decode cX12_readLine 147 = .ok (.goto 4, 3) := by decide +kernel
theorem dX12_readLine_150 : decode cX12_readLine 150 = .ok (.iconst 0, 1) := by decide +kernel
theorem dX12_readLine_151 : decode cX12_readLine 151 = .ok (.aload_n 0, 1) := by decide +kernel
theorem dX12_readLine_152 : decode cX12_readLine 152 = .ok (.getfield 23, 3) := by decide +kernel
theorem dX12_readLine_155 : decode cX12_readLine 155 = .ok (.iconst 0, 1) := by decide +kernel
theorem dX12_readLine_156 : decode cX12_readLine 156 = .ok (.iaload, 1) := by decide +kernel
theorem dX12_readLine_157 : decode cX12_readLine 157 = .ok (.iconst 1, 1) := by decide +kernel
theorem dX12_readLine_158 : decode cX12_readLine 158 = .ok (.if_icmp .ne 7, 3) := by decide +kernel
theorem dX12_readLine_161 : decode cX12_readLine 161 = .ok (.iconst 1, 1) := by decide +kernel
theorem dX12_readLine_162 : decode cX12_readLine 162 = .ok (.goto 4, 3) := by decide +kernel
theorem dX12_readLine_165 : decode cX12_readLine 165 = .ok (.iconst 0, 1) := by decide +kernel
theorem dX12_readLine_166 : decode cX12_readLine 166 = .ok (.iconst 5, 1) := by decide +kernel
theorem dX12_readLine_167 : decode cX12_readLine 167 = .ok (.invokevirtual 208, 3) := by decide +kernel
theorem dX12_readLine_170 : decode cX12_readLine 170 = .ok (.ifCond .eq 10, 3) := by decide +kernel
theorem dX12_readLine_173 : decode cX12_readLine 173 = .ok (.aload_n 0, 1) := by decide +kernel
theorem dX12_readLine_174 : decode cX12_readLine 174 = .ok (.invokevirtual 224, 3) := by decide +kernel
theorem dX12_readLine_177 : decode cX12_readLine 177 = .ok (.goto 12, 3) := by decide +kernel
theorem dX12_readLine_180 : decode cX12_readLine 180 = .ok (.aload_n 0, 1) := by decide +kernel
theorem dX12_readLine_181 : decode cX12_readLine 181 = .ok (.iconst 1, 1) := by decide +kernel
theorem dX12_readLine_182 : decode cX12_readLine 182 = .ok (.aload_n 0, 1) := by decide +kernel
theorem dX12_readLine_183 : decode cX12_readLine 183 = .ok (.getfield 104, 3) := by decide +kernel
theorem dX12_readLine_186 : decode cX12_readLine 186 = .ok (.invokevirtual 150, 3) := by decide +kernel
theorem dX12_readLine_189 : decode cX12_readLine 189 = .ok (.return_, 1) := by decide +kernel
theorem dX12_tableLine_0 : decode cX12_tableLine 0 = .ok (.aload_n 0, 1) := by decide +kernel
theorem dX12_tableLine_1 : decode cX12_tableLine 1 = .ok (.getfield 123, 3) := by decide +kernel
theorem dX12_tableLine_4 : decode cX12_tableLine 4 = .ok (.ifCond .eq 4, 3) := by decide +kernel
theorem dX12_tableLine_7 : decode cX12_tableLine 7 = .ok (.return_, 1) := by decide +kernel
theorem dX12_tableLine_8 : decode cX12_tableLine 8 = .ok (.aload_n 0, 1) := by decide +kernel
theorem dX12_tableLine_9 : decode cX12_tableLine 9 = .ok (.ldc 227, 2) := by decide +kernel
theorem dX12_tableLine_11 : decode cX12_tableLine 11 = .ok (.invokevirtual 147, 3) := by decide +kernel
theorem dX12_tableLine_14 : decode cX12_tableLine 14 = .ok (.ifCond .eq 13, 3) := by decide +kernel
theorem dX12_tableLine_17 : decode cX12_tableLine 17 = .ok (.aload_n 0, 1) := by decide +kernel
theorem dX12_tableLine_18 : decode cX12_tableLine 18 = .ok (.getfield 23, 3) := by decide +kernel
theorem dX12_tableLine_21 : decode cX12_tableLine 21 = .ok (.iconst 1, 1) := by decide +kernel
theorem dX12_tableLine_22 : decode cX12_tableLine 22 = .ok (.iconst 1, 1) := by decide +kernel
theorem dX12_tableLine_23 : decode cX12_tableLine 23 = .ok (.iastore, 1) := by decide +kernel
theorem dX12_tableLine_24 : decode cX12_tableLine 24 = .ok (.goto 9, 3) := by decide +kernel
theorem dX12_tableLine_27 : decode cX12_tableLine 27 = .ok (.aload_n 0, 1) := by decide +kernel
theorem dX12_tableLine_28 : decode cX12_tableLine 28 = .ok (.ldc 229, 2) := by decide +kernel
theorem dX12_tableLine_30 : decode cX12_tableLine 30 = .ok (.invokevirtual 231, 3) := by decide +kernel
theorem dX12_tableLine_33 : decode cX12_tableLine 33 = .ok (.aload_n 0, 1) := by decide +kernel
theorem dX12_tableLine_34 : decode cX12_tableLine 34 = .ok (.ldc 235, 2) := by decide +kernel
theorem dX12_tableLine_36 : decode cX12_tableLine 36 = .ok (.invokevirtual 147, 3) := by decide +kernel
theorem dX12_tableLine_39 : decode cX12_tableLine 39 = .ok (.ifCond .eq 10, 3) := by decide +kernel
theorem dX12_tableLine_42 : decode cX12_tableLine 42 = .ok (.aload_n 0, 1) := by decide +kernel
theorem dX12_tableLine_43 : decode cX12_tableLine 43 = .ok (.getfield 23, 3) := by decide +kernel
theorem dX12_tableLine_46 : decode cX12_tableLine 46 = .ok (.iconst 2, 1) := by decide +kernel
theorem dX12_tableLine_47 : decode cX12_tableLine 47 = .ok (.iconst 1, 1) := by decide +kernel
theorem dX12_tableLine_48 : decode cX12_tableLine 48 = .ok (.iastore, 1) := by decide +kernel
theorem dX12_tableLine_49 : decode cX12_tableLine 49 = .ok (.aload_n 0, 1) := by decide +kernel
theorem dX12_tableLine_50 : decode cX12_tableLine 50 = .ok (.getfield 123, 3) := by decide +kernel
theorem dX12_tableLine_53 : decode cX12_tableLine 53 = .ok (.ifCond .ne 10, 3) := by decide +kernel
theorem dX12_tableLine_56 : decode cX12_tableLine 56 = .ok (.aload_n 0, 1) := by decide +kernel
theorem dX12_tableLine_57 : decode cX12_tableLine 57 = .ok (.getfield 23, 3) := by decide +kernel
theorem dX12_tableLine_60 : decode cX12_tableLine 60 = .ok (.iconst 0, 1) := by decide +kernel
theorem dX12_tableLine_61 : decode cX12_tableLine 61 = .ok (.iconst 1, 1) := by decide +kernel
theorem dX12_tableLine_62 : decode cX12_tableLine 62 = .ok (.iastore, 1) := by decide +kernel
theorem dX12_tableLine_63 : decode cX12_tableLine 63 = .ok (.return_, 1) := by decide +kernel
theorem dX12_boardLine_0 : decode cX12_boardLine 0 = .ok (.aload_n 0, 1) := by decide +kernel
theorem dX12_boardLine_1 : decode cX12_boardLine 1 = .ok (.getfield 123, 3) := by decide +kernel
theorem dX12_boardLine_4 : decode cX12_boardLine 4 = .ok (.ifCond .eq 4, 3) := by decide +kernel
theorem dX12_boardLine_7 : decode cX12_boardLine 7 = .ok (.return_, 1) := by decide +kernel
theorem dX12_boardLine_8 : decode cX12_boardLine 8 = .ok (.aload_n 0, 1) := by decide +kernel
theorem dX12_boardLine_9 : decode cX12_boardLine 9 = .ok (.getfield 23, 3) := by decide +kernel
theorem dX12_boardLine_12 : decode cX12_boardLine 12 = .ok (.iconst 3, 1) := by decide +kernel
theorem dX12_boardLine_13 : decode cX12_boardLine 13 = .ok (.iaload, 1) := by decide +kernel
theorem dX12_boardLine_14 : decode cX12_boardLine 14 = .ok (.istore_n 1, 1) := by decide +kernel
theorem dX12_boardLine_15 : decode cX12_boardLine 15 = .ok (.aload_n 0, 1) := by decide +kernel
theorem dX12_boardLine_16 : decode cX12_boardLine 16 = .ok (.iload_n 1, 1) := by decide +kernel
theorem dX12_boardLine_17 : decode cX12_boardLine 17 = .ok (.invokevirtual 237, 3) := by decide +kernel
theorem dX12_boardLine_20 : decode cX12_boardLine 20 = .ok (.aload_n 0, 1) := by decide +kernel
theorem dX12_boardLine_21 : decode cX12_boardLine 21 = .ok (.ldc 241, 2) := by decide +kernel
theorem dX12_boardLine_23 : decode cX12_boardLine 23 = .ok (.invokevirtual 231, 3) := by decide +kernel
theorem dX12_boardLine_26 : decode cX12_boardLine 26 = .ok (.aload_n 0, 1) := by decide +kernel
theorem dX12_boardLine_27 : decode cX12_boardLine 27 = .ok (.iconst 1, 1) := by decide +kernel
theorem dX12_boardLine_28 : decode cX12_boardLine 28 = .ok (.bipush 8, 2) := by decide +kernel
theorem dX12_boardLine_30 : decode cX12_boardLine 30 = .ok (.invokevirtual 243, 3) := by decide +kernel
theorem dX12_boardLine_33 : decode cX12_boardLine 33 = .ok (.istore_n 2, 1) := by decide +kernel
theorem dX12_boardLine_34 : decode cX12_boardLine 34 = .ok (.aload_n 0, 1) := by decide +kernel
theorem dX12_boardLine_35 : decode cX12_boardLine 35 = .ok (.ldc 246, 2) := by decide +kernel
theorem dX12_boardLine_37 : decode cX12_boardLine 37 = .ok (.invokevirtual 231, 3) := by decide +kernel
theorem dX12_boardLine_40 : decode cX12_boardLine 40 = .ok (.aload_n 0, 1) := by decide +kernel
theorem dX12_boardLine_41 : decode cX12_boardLine 41 = .ok (.iconst 1, 1) := by decide +kernel
theorem dX12_boardLine_42 : decode cX12_boardLine 42 = .ok (.iconst 4, 1) := by decide +kernel
theorem dX12_boardLine_43 : decode cX12_boardLine 43 = .ok (.invokevirtual 172, 3) := by decide +kernel
theorem dX12_boardLine_46 : decode cX12_boardLine 46 = .ok (.istore_n 3, 1) := by decide +kernel
theorem dX12_boardLine_47 : decode cX12_boardLine 47 = .ok (.aload_n 0, 1) := by decide +kernel
theorem dX12_boardLine_48 : decode cX12_boardLine 48 = .ok (.getfield 123, 3) := by decide +kernel
theorem dX12_boardLine_51 : decode cX12_boardLine 51 = .ok (.ifCond .ne 27, 3) := by decide +kernel
theorem dX12_boardLine_54 : decode cX12_boardLine 54 = .ok (.aload_n 0, 1) := by decide +kernel
theorem dX12_boardLine_55 : decode cX12_boardLine 55 = .ok (.getfield 23, 3) := by decide +kernel
theorem dX12_boardLine_58 : decode cX12_boardLine 58 = .ok (.iconst 5, 1) := by decide +kernel
theorem dX12_boardLine_59 : decode cX12_boardLine 59 = .ok (.iaload, 1) := by decide +kernel
theorem dX12_boardLine_60 : decode cX12_boardLine 60 = .ok (.iload_n 2, 1) := by decide +kernel
theorem dX12_boardLine_61 : decode cX12_boardLine 61 = .ok (.iload_n 3, 1) := by decide +kernel
theorem dX12_boardLine_62 : decode cX12_boardLine 62 = .ok (.imul, 1) := by decide +kernel
theorem dX12_boardLine_63 : decode cX12_boardLine 63 = .ok (.iadd, 1) := by decide +kernel
theorem dX12_boardLine_64 : decode cX12_boardLine 64 = .ok (.bipush 14, 2) := by decide +kernel
theorem dX12_boardLine_66 : decode cX12_boardLine 66 = .ok (.if_icmp .le 12, 3) := by decide +kernel
theorem dX12_boardLine_69 : decode cX12_boardLine 69 = .ok (.aload_n 0, 1) := by decide +kernel
theorem dX12_boardLine_70 : decode cX12_boardLine 70 = .ok (.iconst 4, 1) := by decide +kernel
theorem dX12_boardLine_71 : decode cX12_boardLine 71 = .ok (.aload_n 0, 1) := by decide +kernel
theorem dX12_boardLine_72 : decode cX12_boardLine 72 = .ok (.getfield 104, 3) := by decide +kernel
theorem dX12_boardLine_75 : decode cX12_boardLine 75 = .ok (.invokevirtual 150, 3) := by decide +kernel
theorem dX12_boardLine_78 : decode cX12_boardLine 78 = .ok (.aload_n 0, 1) := by decide +kernel
theorem dX12_boardLine_79 : decode cX12_boardLine 79 = .ok (.getfield 123, 3) := by decide +kernel
theorem dX12_boardLine_82 : decode cX12_boardLine 82 = .ok (.ifCond .eq 4, 3) := by decide +kernel
theorem dX12_boardLine_85 : decode cX12_boardLine 85 = .ok (.return_, 1) := by decide +kernel
theorem dX12_boardLine_86 : decode cX12_boardLine 86 = .ok (.aload_n 0, 1) := by decide +kernel
theorem dX12_boardLine_87 : decode cX12_boardLine 87 = .ok (.invokevirtual 144, 3) := by decide +kernel
theorem dX12_boardLine_90 : decode cX12_boardLine 90 = .ok (.aload_n 0, 1) := by decide +kernel
theorem dX12_boardLine_91 : decode cX12_boardLine 91 = .ok (.getfield 23, 3) := by decide +kernel
theorem dX12_boardLine_94 : decode cX12_boardLine 94 = .ok (.bipush 7, 2) := by decide +kernel
theorem dX12_boardLine_96 : decode cX12_boardLine 96 = .ok (.iload_n 1, 1) := by decide +kernel
theorem dX12_boardLine_97 : decode cX12_boardLine 97 = .ok (.iadd, 1) := by decide +kernel
theorem dX12_boardLine_98 : decode cX12_boardLine 98 = .ok (.iload_n 2, 1) := by decide +kernel
theorem dX12_boardLine_99 : decode cX12_boardLine 99 = .ok (.iastore, 1) := by decide +kernel
theorem dX12_boardLine_100 : decode cX12_boardLine 100 = .ok (.aload_n 0, 1) := by decide +kernel
theorem dX12_boardLine_101 : decode cX12_boardLine 101 = .ok (.getfield 23, 3) := by decide +kernel
theorem dX12_boardLine_104 : decode cX12_boardLine 104 = .ok (.bipush 10, 2) := by decide +kernel
theorem dX12_boardLine_106 : decode cX12_boardLine 106 = .ok (.iload_n 1, 1) := by decide +kernel
theorem dX12_boardLine_107 : decode cX12_boardLine 107 = .ok (.iadd, 1) := by decide +kernel
theorem dX12_boardLine_108 : decode cX12_boardLine 108 = .ok (.iload_n 3, 1) := by decide +kernel
theorem dX12_boardLine_109 : decode cX12_boardLine 109 = .ok (.iastore, 1) := by decide +kernel
theorem dX12_boardLine_110 : decode cX12_boardLine 110 = .ok (.aload_n 0, 1) := by decide +kernel
theorem dX12_boardLine_111 : decode cX12_boardLine 111 = .ok (.getfield 23, 3) := by decide +kernel
theorem dX12_boardLine_114 : decode cX12_boardLine 114 = .ok (.bipush 13, 2) := by decide +kernel
theorem dX12_boardLine_116 : decode cX12_boardLine 116 = .ok (.iload_n 1, 1) := by decide +kernel
theorem dX12_boardLine_117 : decode cX12_boardLine 117 = .ok (.iadd, 1) := by decide +kernel
theorem dX12_boardLine_118 : decode cX12_boardLine 118 = .ok (.aload_n 0, 1) := by decide +kernel
theorem dX12_boardLine_119 : decode cX12_boardLine 119 = .ok (.getfield 23, 3) := by decide +kernel
theorem dX12_boardLine_122 : decode cX12_boardLine 122 = .ok (.iconst 5, 1) := by decide +kernel
theorem dX12_boardLine_123 : decode cX12_boardLine 123 = .ok (.iaload, 1) := by decide +kernel
theorem dX12_boardLine_124 : decode cX12_boardLine 124 = .ok (.iastore, 1) := by decide +kernel
theorem dX12_boardLine_125 : decode cX12_boardLine 125 = .ok (.aload_n 0, 1) := by decide +kernel
theorem dX12_boardLine_126 : decode cX12_boardLine 126 = .ok (.getfield 23, 3) := by decide +kernel
theorem dX12_boardLine_129 : decode cX12_boardLine 129 = .ok (.iconst 5, 1) := by decide +kernel
theorem dX12_boardLine_130 : decode cX12_boardLine 130 = .ok (.dup2, 1) := by decide +kernel
theorem dX12_boardLine_131 : decode cX12_boardLine 131 = .ok (.iaload, 1) := by decide +kernel
theorem dX12_boardLine_132 : decode cX12_boardLine 132 = .ok (.iload_n 2, 1) := by decide +kernel
theorem dX12_boardLine_133 : decode cX12_boardLine 133 = .ok (.iload_n 3, 1) := by decide +kernel
theorem dX12_boardLine_134 : decode cX12_boardLine 134 = .ok (.imul, 1) := by decide +kernel
theorem dX12_boardLine_135 : decode cX12_boardLine 135 = .ok (.iadd, 1) := by decide +kernel
theorem dX12_boardLine_136 : decode cX12_boardLine 136 = .ok (.iastore, 1) := by decide +kernel
theorem dX12_boardLine_137 : decode cX12_boardLine 137 = .ok (.aload_n 0, 1) := by decide +kernel
theorem dX12_boardLine_138 : decode cX12_boardLine 138 = .ok (.getfield 23, 3) := by decide +kernel
theorem dX12_boardLine_141 : decode cX12_boardLine 141 = .ok (.iconst 3, 1) := by decide +kernel
theorem dX12_boardLine_142 : decode cX12_boardLine 142 = .ok (.dup2, 1) := by decide +kernel
theorem dX12_boardLine_143 : decode cX12_boardLine 143 = .ok (.iaload, 1) := by decide +kernel
theorem dX12_boardLine_144 : decode cX12_boardLine 144 = .ok (.iconst 1, 1) := by decide +kernel
theorem dX12_boardLine_145 : decode cX12_boardLine 145 = .ok (.iadd, 1) := by decide +kernel
theorem dX12_boardLine_146 : decode cX12_boardLine 146 = .ok (.iastore, 1) := by decide +kernel
theorem dX12_boardLine_147 : decode cX12_boardLine 147 = .ok (.return_, 1) := by decide +kernel
theorem dX12_jugLine_0 : decode cX12_jugLine 0 = .ok (.aload_n 0, 1) := by decide +kernel
theorem dX12_jugLine_1 : decode cX12_jugLine 1 = .ok (.getfield 123, 3) := by decide +kernel
theorem dX12_jugLine_4 : decode cX12_jugLine 4 = .ok (.ifCond .eq 4, 3) := by decide +kernel
theorem dX12_jugLine_7 : decode cX12_jugLine 7 = .ok (.return_, 1) := by decide +kernel
theorem dX12_jugLine_8 : decode cX12_jugLine 8 = .ok (.aload_n 0, 1) := by decide +kernel
theorem dX12_jugLine_9 : decode cX12_jugLine 9 = .ok (.invokevirtual 162, 3) := by decide +kernel
theorem dX12_jugLine_12 : decode cX12_jugLine 12 = .ok (.aload_n 0, 1) := by decide +kernel
theorem dX12_jugLine_13 : decode cX12_jugLine 13 = .ok (.getfield 123, 3) := by decide +kernel
theorem dX12_jugLine_16 : decode cX12_jugLine 16 = .ok (.ifCond .eq 7, 3) := by decide +kernel
theorem dX12_jugLine_19 : decode cX12_jugLine 19 = .ok (.iconst 0, 1) := by decide +kernel
theorem dX12_jugLine_20 : decode cX12_jugLine 20 = .ok (.goto 7, 3) := by decide +kernel
theorem dX12_jugLine_23 : decode cX12_jugLine 23 = .ok (.aload_n 0, 1) := by decide +kernel
theorem dX12_jugLine_24 : decode cX12_jugLine 24 = .ok (.invokevirtual 165, 3) := by decide +kernel
theorem dX12_jugLine_27 : decode cX12_jugLine 27 = .ok (.istore_n 1, 1) := by decide +kernel
theorem dX12_jugLine_28 : decode cX12_jugLine 28 = .ok (.aload_n 0, 1) := by decide +kernel
theorem dX12_jugLine_29 : decode cX12_jugLine 29 = .ok (.getfield 123, 3) := by decide +kernel
theorem dX12_jugLine_32 : decode cX12_jugLine 32 = .ok (.ifCond .ne 21, 3) := by decide +kernel
theorem dX12_jugLine_35 : decode cX12_jugLine 35 = .ok (.iload_n 1, 1) := by decide +kernel
theorem dX12_jugLine_36 : decode cX12_jugLine 36 = .ok (.iconst 0, 1) := by decide +kernel
theorem dX12_jugLine_37 : decode cX12_jugLine 37 = .ok (.iconst 2, 1) := by decide +kernel
theorem dX12_jugLine_38 : decode cX12_jugLine 38 = .ok (.invokestatic 168, 3) := by decide +kernel
theorem dX12_jugLine_41 : decode cX12_jugLine 41 = .ok (.ifCond .ne 12, 3) := by decide +kernel
theorem dX12_jugLine_44 : decode cX12_jugLine 44 = .ok (.aload_n 0, 1) := by decide +kernel
theorem dX12_jugLine_45 : decode cX12_jugLine 45 = .ok (.iconst 2, 1) := by decide +kernel
theorem dX12_jugLine_46 : decode cX12_jugLine 46 = .ok (.aload_n 0, 1) := by decide +kernel
theorem dX12_jugLine_47 : decode cX12_jugLine 47 = .ok (.getfield 104, 3) := by decide +kernel
theorem dX12_jugLine_50 : decode cX12_jugLine 50 = .ok (.invokevirtual 150, 3) := by decide +kernel
theorem dX12_jugLine_53 : decode cX12_jugLine 53 = .ok (.aload_n 0, 1) := by decide +kernel
theorem dX12_jugLine_54 : decode cX12_jugLine 54 = .ok (.getfield 123, 3) := by decide +kernel
theorem dX12_jugLine_57 : decode cX12_jugLine 57 = .ok (.ifCond .eq 4, 3) := by decide +kernel
theorem dX12_jugLine_60 : decode cX12_jugLine 60 = .ok (.return_, 1) := by decide +kernel
theorem dX12_jugLine_61 : decode cX12_jugLine 61 = .ok (.aload_n 0, 1) := by decide +kernel
theorem dX12_jugLine_62 : decode cX12_jugLine 62 = .ok (.invokevirtual 144, 3) := by decide +kernel
theorem dX12_jugLine_65 : decode cX12_jugLine 65 = .ok (.aload_n 0, 1) := by decide +kernel
theorem dX12_jugLine_66 : decode cX12_jugLine 66 = .ok (.iconst 0, 1) := by decide +kernel
theorem dX12_jugLine_67 : decode cX12_jugLine 67 = .ok (.aload_n 0, 1) := by decide +kernel
theorem dX12_jugLine_68 : decode cX12_jugLine 68 = .ok (.getfield 23, 3) := by decide +kernel
theorem dX12_jugLine_71 : decode cX12_jugLine 71 = .ok (.bipush 7, 2) := by decide +kernel
theorem dX12_jugLine_73 : decode cX12_jugLine 73 = .ok (.iload_n 1, 1) := by decide +kernel
theorem dX12_jugLine_74 : decode cX12_jugLine 74 = .ok (.iadd, 1) := by decide +kernel
theorem dX12_jugLine_75 : decode cX12_jugLine 75 = .ok (.iaload, 1) := by decide +kernel
theorem dX12_jugLine_76 : decode cX12_jugLine 76 = .ok (.iconst 1, 1) := by decide +kernel
theorem dX12_jugLine_77 : decode cX12_jugLine 77 = .ok (.isub, 1) := by decide +kernel
theorem dX12_jugLine_78 : decode cX12_jugLine 78 = .ok (.invokevirtual 243, 3) := by decide +kernel
theorem dX12_jugLine_81 : decode cX12_jugLine 81 = .ok (.istore_n 2, 1) := by decide +kernel
theorem dX12_jugLine_82 : decode cX12_jugLine 82 = .ok (.aload_n 0, 1) := by decide +kernel
theorem dX12_jugLine_83 : decode cX12_jugLine 83 = .ok (.invokevirtual 248, 3) := by decide +kernel
theorem dX12_jugLine_86 : decode cX12_jugLine 86 = .ok (.aload_n 0, 1) := by decide +kernel
theorem dX12_jugLine_87 : decode cX12_jugLine 87 = .ok (.iconst 0, 1) := by decide +kernel
theorem dX12_jugLine_88 : decode cX12_jugLine 88 = .ok (.aload_n 0, 1) := by decide +kernel
theorem dX12_jugLine_89 : decode cX12_jugLine 89 = .ok (.getfield 23, 3) := by decide +kernel
theorem dX12_jugLine_92 : decode cX12_jugLine 92 = .ok (.bipush 10, 2) := by decide +kernel
theorem dX12_jugLine_94 : decode cX12_jugLine 94 = .ok (.iload_n 1, 1) := by decide +kernel
theorem dX12_jugLine_95 : decode cX12_jugLine 95 = .ok (.iadd, 1) := by decide +kernel
theorem dX12_jugLine_96 : decode cX12_jugLine 96 = .ok (.iaload, 1) := by decide +kernel
theorem dX12_jugLine_97 : decode cX12_jugLine 97 = .ok (.iconst 1, 1) := by decide +kernel
theorem dX12_jugLine_98 : decode cX12_jugLine 98 = .ok (.isub, 1) := by decide +kernel
theorem dX12_jugLine_99 : decode cX12_jugLine 99 = .ok (.invokevirtual 172, 3) := by decide +kernel
theorem dX12_jugLine_102 : decode cX12_jugLine 102 = .ok (.istore_n 3, 1) := by decide +kernel
theorem dX12_jugLine_103 : decode cX12_jugLine 103 = .ok (.aload_n 0, 1) := by decide +kernel
theorem dX12_jugLine_104 : decode cX12_jugLine 104 = .ok (.getfield 23, 3) := by decide +kernel
theorem dX12_jugLine_107 : decode cX12_jugLine 107 = .ok (.bipush 13, 2) := by decide +kernel
theorem dX12_jugLine_109 : decode cX12_jugLine 109 = .ok (.iload_n 1, 1) := by decide +kernel
theorem dX12_jugLine_110 : decode cX12_jugLine 110 = .ok (.iadd, 1) := by decide +kernel
theorem dX12_jugLine_111 : decode cX12_jugLine 111 = .ok (.iaload, 1) := by decide +kernel
theorem dX12_jugLine_112 : decode cX12_jugLine 112 = .ok (.aload_n 0, 1) := by decide +kernel
theorem dX12_jugLine_113 : decode cX12_jugLine 113 = .ok (.getfield 23, 3) := by decide +kernel
theorem dX12_jugLine_116 : decode cX12_jugLine 116 = .ok (.bipush 7, 2) := by decide +kernel
theorem dX12_jugLine_118 : decode cX12_jugLine 118 = .ok (.iload_n 1, 1) := by decide +kernel
theorem dX12_jugLine_119 : decode cX12_jugLine 119 = .ok (.iadd, 1) := by decide +kernel
theorem dX12_jugLine_120 : decode cX12_jugLine 120 = .ok (.iaload, 1) := by decide +kernel
theorem dX12_jugLine_121 : decode cX12_jugLine 121 = .ok (.iload_n 3, 1) := by decide +kernel
theorem dX12_jugLine_122 : decode cX12_jugLine 122 = .ok (.imul, 1) := by decide +kernel
theorem dX12_jugLine_123 : decode cX12_jugLine 123 = .ok (.iadd, 1) := by decide +kernel
theorem dX12_jugLine_124 : decode cX12_jugLine 124 = .ok (.iload_n 2, 1) := by decide +kernel
theorem dX12_jugLine_125 : decode cX12_jugLine 125 = .ok (.iadd, 1) := by decide +kernel
theorem dX12_jugLine_126 : decode cX12_jugLine 126 = .ok (.istore 4, 2) := by decide +kernel
theorem dX12_jugLine_128 : decode cX12_jugLine 128 = .ok (.aload_n 0, 1) := by decide +kernel
theorem dX12_jugLine_129 : decode cX12_jugLine 129 = .ok (.getfield 123, 3) := by decide +kernel
theorem dX12_jugLine_132 : decode cX12_jugLine 132 = .ok (.ifCond .ne 27, 3) := by decide +kernel
theorem dX12_jugLine_135 : decode cX12_jugLine 135 = .ok (.aload_n 0, 1) := by decide +kernel
theorem dX12_jugLine_136 : decode cX12_jugLine 136 = .ok (.getfield 23, 3) := by decide +kernel
theorem dX12_jugLine_139 : decode cX12_jugLine 139 = .ok (.bipush 16, 2) := by decide +kernel
theorem dX12_jugLine_141 : decode cX12_jugLine 141 = .ok (.iaload, 1) := by decide +kernel
theorem dX12_jugLine_142 : decode cX12_jugLine 142 = .ok (.iload 4, 2) := by decide +kernel
theorem dX12_jugLine_144 : decode cX12_jugLine 144 = .ok (.invokestatic 251, 3) := by decide +kernel
theorem dX12_jugLine_147 : decode cX12_jugLine 147 = .ok (.ifCond .eq 12, 3) := by decide +kernel
theorem dX12_jugLine_150 : decode cX12_jugLine 150 = .ok (.aload_n 0, 1) := by decide +kernel
theorem dX12_jugLine_151 : decode cX12_jugLine 151 = .ok (.iconst 3, 1) := by decide +kernel
theorem dX12_jugLine_152 : decode cX12_jugLine 152 = .ok (.aload_n 0, 1) := by decide +kernel
theorem dX12_jugLine_153 : decode cX12_jugLine 153 = .ok (.getfield 104, 3) := by decide +kernel
theorem dX12_jugLine_156 : decode cX12_jugLine 156 = .ok (.invokevirtual 150, 3) := by decide +kernel
theorem dX12_jugLine_159 : decode cX12_jugLine 159 = .ok (.aload_n 0, 1) := by decide +kernel
theorem dX12_jugLine_160 : decode cX12_jugLine 160 = .ok (.getfield 123, 3) := by decide +kernel
theorem dX12_jugLine_163 : decode cX12_jugLine 163 = .ok (.ifCond .eq 4, 3) := by decide +kernel
theorem dX12_jugLine_166 : decode cX12_jugLine 166 = .ok (.return_, 1) := by decide +kernel
theorem dX12_jugLine_167 : decode cX12_jugLine 167 = .ok (.aload_n 0, 1) := by decide +kernel
theorem dX12_jugLine_168 : decode cX12_jugLine 168 = .ok (.invokevirtual 144, 3) := by decide +kernel
theorem dX12_jugLine_171 : decode cX12_jugLine 171 = .ok (.aload_n 0, 1) := by decide +kernel
theorem dX12_jugLine_172 : decode cX12_jugLine 172 = .ok (.getfield 23, 3) := by decide +kernel
theorem dX12_jugLine_175 : decode cX12_jugLine 175 = .ok (.bipush 16, 2) := by decide +kernel
theorem dX12_jugLine_177 : decode cX12_jugLine 177 = .ok (.dup2, 1) := by decide +kernel
theorem dX12_jugLine_178 : decode cX12_jugLine 178 = .ok (.iaload, 1) := by decide +kernel
theorem dX12_jugLine_179 : decode cX12_jugLine 179 = .ok (.iconst 1, 1) := by decide +kernel
theorem dX12_jugLine_180 : decode cX12_jugLine 180 = .ok (.iload 4, 2) := by decide +kernel
theorem dX12_jugLine_182 : decode cX12_jugLine 182 = .ok (.ishl, 1) := by decide +kernel
theorem dX12_jugLine_183 : decode cX12_jugLine 183 = .ok (.ior, 1) := by decide +kernel
theorem dX12_jugLine_184 : decode cX12_jugLine 184 = .ok (.iastore, 1) := by decide +kernel
theorem dX12_jugLine_185 : decode cX12_jugLine 185 = .ok (.aload_n 0, 1) := by decide +kernel
theorem dX12_jugLine_186 : decode cX12_jugLine 186 = .ok (.getfield 23, 3) := by decide +kernel
theorem dX12_jugLine_189 : decode cX12_jugLine 189 = .ok (.bipush 6, 2) := by decide +kernel
theorem dX12_jugLine_191 : decode cX12_jugLine 191 = .ok (.dup2, 1) := by decide +kernel
theorem dX12_jugLine_192 : decode cX12_jugLine 192 = .ok (.iaload, 1) := by decide +kernel
theorem dX12_jugLine_193 : decode cX12_jugLine 193 = .ok (.iconst 1, 1) := by decide +kernel
theorem dX12_jugLine_194 : decode cX12_jugLine 194 = .ok (.iadd, 1) := by decide +kernel
theorem dX12_jugLine_195 : decode cX12_jugLine 195 = .ok (.iastore, 1) := by decide +kernel
theorem dX12_jugLine_196 : decode cX12_jugLine 196 = .ok (.return_, 1) := by decide +kernel
theorem dX12_pieceLine_0 : decode cX12_pieceLine 0 = .ok (.aload_n 0, 1) := by decide +kernel
theorem dX12_pieceLine_1 : decode cX12_pieceLine 1 = .ok (.getfield 123, 3) := by decide +kernel
theorem dX12_pieceLine_4 : decode cX12_pieceLine 4 = .ok (.ifCond .eq 4, 3) := by decide +kernel
theorem dX12_pieceLine_7 : decode cX12_pieceLine 7 = .ok (.return_, 1) := by decide +kernel
theorem dX12_pieceLine_8 : decode cX12_pieceLine 8 = .ok (.aload_n 0, 1) := by decide +kernel
theorem dX12_pieceLine_9 : decode cX12_pieceLine 9 = .ok (.getfield 23, 3) := by decide +kernel
theorem dX12_pieceLine_12 : decode cX12_pieceLine 12 = .ok (.iconst 4, 1) := by decide +kernel
theorem dX12_pieceLine_13 : decode cX12_pieceLine 13 = .ok (.iaload, 1) := by decide +kernel
theorem dX12_pieceLine_14 : decode cX12_pieceLine 14 = .ok (.istore_n 1, 1) := by decide +kernel
theorem dX12_pieceLine_15 : decode cX12_pieceLine 15 = .ok (.aload_n 0, 1) := by decide +kernel
theorem dX12_pieceLine_16 : decode cX12_pieceLine 16 = .ok (.iconst 3, 1) := by decide +kernel
theorem dX12_pieceLine_17 : decode cX12_pieceLine 17 = .ok (.iload_n 1, 1) := by decide +kernel
theorem dX12_pieceLine_18 : decode cX12_pieceLine 18 = .ok (.iadd, 1) := by decide +kernel
theorem dX12_pieceLine_19 : decode cX12_pieceLine 19 = .ok (.invokevirtual 237, 3) := by decide +kernel
theorem dX12_pieceLine_22 : decode cX12_pieceLine 22 = .ok (.aload_n 0, 1) := by decide +kernel
theorem dX12_pieceLine_23 : decode cX12_pieceLine 23 = .ok (.getfield 123, 3) := by decide +kernel
theorem dX12_pieceLine_26 : decode cX12_pieceLine 26 = .ok (.ifCond .eq 4, 3) := by decide +kernel
theorem dX12_pieceLine_29 : decode cX12_pieceLine 29 = .ok (.return_, 1) := by decide +kernel
theorem dX12_pieceLine_30 : decode cX12_pieceLine 30 = .ok (.aload_n 0, 1) := by decide +kernel
theorem dX12_pieceLine_31 : decode cX12_pieceLine 31 = .ok (.ldc 255, 2) := by decide +kernel
theorem dX12_pieceLine_33 : decode cX12_pieceLine 33 = .ok (.invokevirtual 140, 3) := by decide +kernel
theorem dX12_pieceLine_36 : decode cX12_pieceLine 36 = .ok (.ifCond .eq 7, 3) := by decide +kernel
theorem dX12_pieceLine_39 : decode cX12_pieceLine 39 = .ok (.iconst 0, 1) := by decide +kernel
theorem dX12_pieceLine_40 : decode cX12_pieceLine 40 = .ok (.goto 32, 3) := by decide +kernel
theorem dX12_pieceLine_43 : decode cX12_pieceLine 43 = .ok (.aload_n 0, 1) := by decide +kernel
theorem dX12_pieceLine_44 : decode cX12_pieceLine 44 = .ok (.ldc_w 257, 3) := by decide +kernel
theorem dX12_pieceLine_47 : decode cX12_pieceLine 47 = .ok (.invokevirtual 140, 3) := by decide +kernel
theorem dX12_pieceLine_50 : decode cX12_pieceLine 50 = .ok (.ifCond .eq 7, 3) := by decide +kernel
theorem dX12_pieceLine_53 : decode cX12_pieceLine 53 = .ok (.iconst 1, 1) := by decide +kernel
theorem dX12_pieceLine_54 : decode cX12_pieceLine 54 = .ok (.goto 18, 3) := by decide +kernel
theorem dX12_pieceLine_57 : decode cX12_pieceLine 57 = .ok (.aload_n 0, 1) := by decide +kernel
theorem dX12_pieceLine_58 : decode cX12_pieceLine 58 = .ok (.ldc_w 259, 3) := by decide +kernel
theorem dX12_pieceLine_61 : decode cX12_pieceLine 61 = .ok (.invokevirtual 140, 3) := by decide +kernel
theorem dX12_pieceLine_64 : decode cX12_pieceLine 64 = .ok (.ifCond .eq 7, 3) := by decide +kernel
theorem dX12_pieceLine_67 : decode cX12_pieceLine 67 = .ok (.iconst 2, 1) := by decide +kernel
theorem dX12_pieceLine_68 : decode cX12_pieceLine 68 = .ok (.goto 4, 3) := by decide +kernel
theorem dX12_pieceLine_71 : decode cX12_pieceLine 71 = .ok (.iconst (-1), 1) := by decide +kernel
theorem dX12_pieceLine_72 : decode cX12_pieceLine 72 = .ok (.istore_n 2, 1) := by decide +kernel
theorem dX12_pieceLine_73 : decode cX12_pieceLine 73 = .ok (.iload_n 2, 1) := by decide +kernel
theorem dX12_pieceLine_74 : decode cX12_pieceLine 74 = .ok (.ifCond .ge 12, 3) := by decide +kernel
theorem dX12_pieceLine_77 : decode cX12_pieceLine 77 = .ok (.aload_n 0, 1) := by decide +kernel
theorem dX12_pieceLine_78 : decode cX12_pieceLine 78 = .ok (.iconst 1, 1) := by decide +kernel
theorem dX12_pieceLine_79 : decode cX12_pieceLine 79 = .ok (.aload_n 0, 1) := by decide +kernel
theorem dX12_pieceLine_80 : decode cX12_pieceLine 80 = .ok (.getfield 104, 3) := by decide +kernel
theorem dX12_pieceLine_83 : decode cX12_pieceLine 83 = .ok (.invokevirtual 150, 3) := by decide +kernel
theorem dX12_pieceLine_86 : decode cX12_pieceLine 86 = .ok (.aload_n 0, 1) := by decide +kernel
theorem dX12_pieceLine_87 : decode cX12_pieceLine 87 = .ok (.getfield 123, 3) := by decide +kernel
theorem dX12_pieceLine_90 : decode cX12_pieceLine 90 = .ok (.ifCond .eq 4, 3) := by decide +kernel
theorem dX12_pieceLine_93 : decode cX12_pieceLine 93 = .ok (.return_, 1) := by decide +kernel
theorem dX12_pieceLine_94 : decode cX12_pieceLine 94 = .ok (.aload_n 0, 1) := by decide +kernel
theorem dX12_pieceLine_95 : decode cX12_pieceLine 95 = .ok (.invokevirtual 144, 3) := by decide +kernel
theorem dX12_pieceLine_98 : decode cX12_pieceLine 98 = .ok (.aload_n 0, 1) := by decide +kernel
theorem dX12_pieceLine_99 : decode cX12_pieceLine 99 = .ok (.getfield 23, 3) := by decide +kernel
theorem dX12_pieceLine_102 : decode cX12_pieceLine 102 = .ok (.bipush 17, 2) := by decide +kernel
theorem dX12_pieceLine_104 : decode cX12_pieceLine 104 = .ok (.iload_n 1, 1) := by decide +kernel
theorem dX12_pieceLine_105 : decode cX12_pieceLine 105 = .ok (.iadd, 1) := by decide +kernel
theorem dX12_pieceLine_106 : decode cX12_pieceLine 106 = .ok (.iload_n 2, 1) := by decide +kernel
theorem dX12_pieceLine_107 : decode cX12_pieceLine 107 = .ok (.iastore, 1) := by decide +kernel
theorem dX12_pieceLine_108 : decode cX12_pieceLine 108 = .ok (.aload_n 0, 1) := by decide +kernel
theorem dX12_pieceLine_109 : decode cX12_pieceLine 109 = .ok (.getfield 23, 3) := by decide +kernel
theorem dX12_pieceLine_112 : decode cX12_pieceLine 112 = .ok (.bipush 21, 2) := by decide +kernel
theorem dX12_pieceLine_114 : decode cX12_pieceLine 114 = .ok (.iload_n 1, 1) := by decide +kernel
theorem dX12_pieceLine_115 : decode cX12_pieceLine 115 = .ok (.iadd, 1) := by decide +kernel
theorem dX12_pieceLine_116 : decode cX12_pieceLine 116 = .ok (.iconst 1, 1) := by decide +kernel
theorem dX12_pieceLine_117 : decode cX12_pieceLine 117 = .ok (.iastore, 1) := by decide +kernel
theorem dX12_pieceLine_118 : decode cX12_pieceLine 118 = .ok (.aload_n 0, 1) := by decide +kernel
theorem dX12_pieceLine_119 : decode cX12_pieceLine 119 = .ok (.getfield 23, 3) := by decide +kernel
theorem dX12_pieceLine_122 : decode cX12_pieceLine 122 = .ok (.bipush 25, 2) := by decide +kernel
theorem dX12_pieceLine_124 : decode cX12_pieceLine 124 = .ok (.iload_n 1, 1) := by decide +kernel
theorem dX12_pieceLine_125 : decode cX12_pieceLine 125 = .ok (.iadd, 1) := by decide +kernel
theorem dX12_pieceLine_126 : decode cX12_pieceLine 126 = .ok (.iconst 1, 1) := by decide +kernel
theorem dX12_pieceLine_127 : decode cX12_pieceLine 127 = .ok (.iastore, 1) := by decide +kernel
theorem dX12_pieceLine_128 : decode cX12_pieceLine 128 = .ok (.iload_n 2, 1) := by decide +kernel
theorem dX12_pieceLine_129 : decode cX12_pieceLine 129 = .ok (.ifCond .eq 73, 3) := by decide +kernel
theorem dX12_pieceLine_132 : decode cX12_pieceLine 132 = .ok (.aload_n 0, 1) := by decide +kernel
theorem dX12_pieceLine_133 : decode cX12_pieceLine 133 = .ok (.getfield 23, 3) := by decide +kernel
theorem dX12_pieceLine_136 : decode cX12_pieceLine 136 = .ok (.bipush 21, 2) := by decide +kernel
theorem dX12_pieceLine_138 : decode cX12_pieceLine 138 = .ok (.iload_n 1, 1) := by decide +kernel
theorem dX12_pieceLine_139 : decode cX12_pieceLine 139 = .ok (.iadd, 1) := by decide +kernel
theorem dX12_pieceLine_140 : decode cX12_pieceLine 140 = .ok (.aload_n 0, 1) := by decide +kernel
theorem dX12_pieceLine_141 : decode cX12_pieceLine 141 = .ok (.iload_n 2, 1) := by decide +kernel
theorem dX12_pieceLine_142 : decode cX12_pieceLine 142 = .ok (.iconst 1, 1) := by decide +kernel
theorem dX12_pieceLine_143 : decode cX12_pieceLine 143 = .ok (.if_icmp .ne 7, 3) := by decide +kernel
theorem dX12_pieceLine_146 : decode cX12_pieceLine 146 = .ok (.iconst 1, 1) := by decide +kernel
theorem dX12_pieceLine_147 : decode cX12_pieceLine 147 = .ok (.goto 4, 3) := by decide +kernel
theorem dX12_pieceLine_150 : decode cX12_pieceLine 150 = .ok (.iconst 2, 1) := by decide +kernel
theorem dX12_pieceLine_151 : decode cX12_pieceLine 151 = .ok (.iload_n 2, 1) := by decide +kernel
theorem dX12_pieceLine_152 : decode cX12_pieceLine 152 = .ok (.iconst 1, 1) := by decide +kernel
theorem dX12_pieceLine_153 : decode cX12_pieceLine 153 = .ok (.if_icmp .ne 7, 3) := by decide +kernel
theorem dX12_pieceLine_156 : decode cX12_pieceLine 156 = .ok (.iconst 4, 1) := by decide +kernel
theorem dX12_pieceLine_157 : decode cX12_pieceLine 157 = .ok (.goto 4, 3) := by decide +kernel
theorem dX12_pieceLine_160 : decode cX12_pieceLine 160 = .ok (.iconst 3, 1) := by decide +kernel
theorem dX12_pieceLine_161 : decode cX12_pieceLine 161 = .ok (.invokevirtual 243, 3) := by decide +kernel
theorem dX12_pieceLine_164 : decode cX12_pieceLine 164 = .ok (.iastore, 1) := by decide +kernel
theorem dX12_pieceLine_165 : decode cX12_pieceLine 165 = .ok (.aload_n 0, 1) := by decide +kernel
theorem dX12_pieceLine_166 : decode cX12_pieceLine 166 = .ok (.invokevirtual 248, 3) := by decide +kernel
theorem dX12_pieceLine_169 : decode cX12_pieceLine 169 = .ok (.aload_n 0, 1) := by decide +kernel
theorem dX12_pieceLine_170 : decode cX12_pieceLine 170 = .ok (.getfield 23, 3) := by decide +kernel
theorem dX12_pieceLine_173 : decode cX12_pieceLine 173 = .ok (.bipush 25, 2) := by decide +kernel
theorem dX12_pieceLine_175 : decode cX12_pieceLine 175 = .ok (.iload_n 1, 1) := by decide +kernel
theorem dX12_pieceLine_176 : decode cX12_pieceLine 176 = .ok (.iadd, 1) := by decide +kernel
theorem dX12_pieceLine_177 : decode cX12_pieceLine 177 = .ok (.aload_n 0, 1) := by decide +kernel
theorem dX12_pieceLine_178 : decode cX12_pieceLine 178 = .ok (.iload_n 2, 1) := by decide +kernel
theorem dX12_pieceLine_179 : decode cX12_pieceLine 179 = .ok (.iconst 1, 1) := by decide +kernel
theorem dX12_pieceLine_180 : decode cX12_pieceLine 180 = .ok (.if_icmp .ne 7, 3) := by decide +kernel
theorem dX12_pieceLine_183 : decode cX12_pieceLine 183 = .ok (.iconst 1, 1) := by decide +kernel
theorem dX12_pieceLine_184 : decode cX12_pieceLine 184 = .ok (.goto 4, 3) := by decide +kernel
theorem dX12_pieceLine_187 : decode cX12_pieceLine 187 = .ok (.iconst 2, 1) := by decide +kernel
theorem dX12_pieceLine_188 : decode cX12_pieceLine 188 = .ok (.iload_n 2, 1) := by decide +kernel
theorem dX12_pieceLine_189 : decode cX12_pieceLine 189 = .ok (.iconst 1, 1) := by decide +kernel
theorem dX12_pieceLine_190 : decode cX12_pieceLine 190 = .ok (.if_icmp .ne 7, 3) := by decide +kernel
theorem dX12_pieceLine_193 : decode cX12_pieceLine 193 = .ok (.iconst 4, 1) := by decide +kernel
theorem dX12_pieceLine_194 : decode cX12_pieceLine 194 = .ok (.goto 4, 3) := by decide +kernel
theorem dX12_pieceLine_197 : decode cX12_pieceLine 197 = .ok (.iconst 3, 1) := by decide +kernel
theorem dX12_pieceLine_198 : decode cX12_pieceLine 198 = .ok (.invokevirtual 243, 3) := by decide +kernel
theorem dX12_pieceLine_201 : decode cX12_pieceLine 201 = .ok (.iastore, 1) := by decide +kernel
theorem dX12_pieceLine_202 : decode cX12_pieceLine 202 = .ok (.aload_n 0, 1) := by decide +kernel
theorem dX12_pieceLine_203 : decode cX12_pieceLine 203 = .ok (.getfield 23, 3) := by decide +kernel
theorem dX12_pieceLine_206 : decode cX12_pieceLine 206 = .ok (.bipush 29, 2) := by decide +kernel
theorem dX12_pieceLine_208 : decode cX12_pieceLine 208 = .ok (.iload_n 1, 1) := by decide +kernel
theorem dX12_pieceLine_209 : decode cX12_pieceLine 209 = .ok (.iadd, 1) := by decide +kernel
theorem dX12_pieceLine_210 : decode cX12_pieceLine 210 = .ok (.aload_n 0, 1) := by decide +kernel
theorem dX12_pieceLine_211 : decode cX12_pieceLine 211 = .ok (.ldc_w 261, 3) := by decide +kernel
theorem dX12_pieceLine_214 : decode cX12_pieceLine 214 = .ok (.invokevirtual 147, 3) := by decide +kernel
theorem dX12_pieceLine_217 : decode cX12_pieceLine 217 = .ok (.ifCond .eq 7, 3) := by decide +kernel
theorem dX12_pieceLine_220 : decode cX12_pieceLine 220 = .ok (.iconst 1, 1) := by decide +kernel
theorem dX12_pieceLine_221 : decode cX12_pieceLine 221 = .ok (.goto 4, 3) := by decide +kernel
theorem dX12_pieceLine_224 : decode cX12_pieceLine 224 = .ok (.iconst 0, 1) := by decide +kernel
theorem dX12_pieceLine_225 : decode cX12_pieceLine 225 = .ok (.iastore, 1) := by decide +kernel
theorem dX12_pieceLine_226 : decode cX12_pieceLine 226 = .ok (.aload_n 0, 1) := by decide +kernel
theorem dX12_pieceLine_227 : decode cX12_pieceLine 227 = .ok (.getfield 23, 3) := by decide +kernel
theorem dX12_pieceLine_230 : decode cX12_pieceLine 230 = .ok (.bipush 33, 2) := by decide +kernel
theorem dX12_pieceLine_232 : decode cX12_pieceLine 232 = .ok (.iload_n 1, 1) := by decide +kernel
theorem dX12_pieceLine_233 : decode cX12_pieceLine 233 = .ok (.iadd, 1) := by decide +kernel
theorem dX12_pieceLine_234 : decode cX12_pieceLine 234 = .ok (.aload_n 0, 1) := by decide +kernel
theorem dX12_pieceLine_235 : decode cX12_pieceLine 235 = .ok (.ldc_w 263, 3) := by decide +kernel
theorem dX12_pieceLine_238 : decode cX12_pieceLine 238 = .ok (.invokevirtual 147, 3) := by decide +kernel
theorem dX12_pieceLine_241 : decode cX12_pieceLine 241 = .ok (.ifCond .eq 7, 3) := by decide +kernel
theorem dX12_pieceLine_244 : decode cX12_pieceLine 244 = .ok (.iconst 1, 1) := by decide +kernel
theorem dX12_pieceLine_245 : decode cX12_pieceLine 245 = .ok (.goto 18, 3) := by decide +kernel
theorem dX12_pieceLine_248 : decode cX12_pieceLine 248 = .ok (.aload_n 0, 1) := by decide +kernel
theorem dX12_pieceLine_249 : decode cX12_pieceLine 249 = .ok (.ldc_w 265, 3) := by decide +kernel
theorem dX12_pieceLine_252 : decode cX12_pieceLine 252 = .ok (.invokevirtual 147, 3) := by decide +kernel
theorem dX12_pieceLine_255 : decode cX12_pieceLine 255 = .ok (.ifCond .eq 7, 3) := by decide +kernel
theorem dX12_pieceLine_258 : decode cX12_pieceLine 258 = .ok (.iconst 2, 1) := by decide +kernel
theorem dX12_pieceLine_259 : decode cX12_pieceLine 259 = .ok (.goto 4, 3) := by decide +kernel
theorem dX12_pieceLine_262 : decode cX12_pieceLine 262 = .ok (.iconst 0, 1) := by decide +kernel
theorem dX12_pieceLine_263 : decode cX12_pieceLine 263 = .ok (.iastore, 1) := by decide +kernel
theorem dX12_pieceLine_264 : decode cX12_pieceLine 264 = .ok (.aload_n 0, 1) := by decide +kernel
theorem dX12_pieceLine_265 : decode cX12_pieceLine 265 = .ok (.getfield 123, 3) := by decide +kernel
theorem dX12_pieceLine_268 : decode cX12_pieceLine 268 = .ok (.ifCond .ne 13, 3) := by decide +kernel
theorem dX12_pieceLine_271 : decode cX12_pieceLine 271 = .ok (.aload_n 0, 1) := by decide +kernel
theorem dX12_pieceLine_272 : decode cX12_pieceLine 272 = .ok (.getfield 23, 3) := by decide +kernel
theorem dX12_pieceLine_275 : decode cX12_pieceLine 275 = .ok (.iconst 4, 1) := by decide +kernel
theorem dX12_pieceLine_276 : decode cX12_pieceLine 276 = .ok (.dup2, 1) := by decide +kernel
theorem dX12_pieceLine_277 : decode cX12_pieceLine 277 = .ok (.iaload, 1) := by decide +kernel
theorem dX12_pieceLine_278 : decode cX12_pieceLine 278 = .ok (.iconst 1, 1) := by decide +kernel
theorem dX12_pieceLine_279 : decode cX12_pieceLine 279 = .ok (.iadd, 1) := by decide +kernel
theorem dX12_pieceLine_280 : decode cX12_pieceLine 280 = .ok (.iastore, 1) := by decide +kernel
theorem dX12_pieceLine_281 : decode cX12_pieceLine 281 = .ok (.return_, 1) := by decide +kernel
theorem dX12_layLine_0 : decode cX12_layLine 0 = .ok (.aload_n 0, 1) := by decide +kernel
theorem dX12_layLine_1 : decode cX12_layLine 1 = .ok (.getfield 123, 3) := by decide +kernel
theorem dX12_layLine_4 : decode cX12_layLine 4 = .ok (.ifCond .eq 4, 3) := by decide +kernel
theorem dX12_layLine_7 : decode cX12_layLine 7 = .ok (.return_, 1) := by decide +kernel
theorem dX12_layLine_8 : decode cX12_layLine 8 = .ok (.aload_n 0, 1) := by decide +kernel
theorem dX12_layLine_9 : decode cX12_layLine 9 = .ok (.getfield 113, 3) := by decide +kernel
theorem dX12_layLine_12 : decode cX12_layLine 12 = .ok (.iconst 3, 1) := by decide +kernel
theorem dX12_layLine_13 : decode cX12_layLine 13 = .ok (.if_icmp .eq 13, 3) := by decide +kernel
theorem dX12_layLine_16 : decode cX12_layLine 16 = .ok (.aload_n 0, 1) := by decide +kernel
theorem dX12_layLine_17 : decode cX12_layLine 17 = .ok (.iconst 1, 1) := by decide +kernel
theorem dX12_layLine_18 : decode cX12_layLine 18 = .ok (.aload_n 0, 1) := by decide +kernel
theorem dX12_layLine_19 : decode cX12_layLine 19 = .ok (.getfield 104, 3) := by decide +kernel
theorem dX12_layLine_22 : decode cX12_layLine 22 = .ok (.invokevirtual 150, 3) := by decide +kernel
theorem dX12_layLine_25 : decode cX12_layLine 25 = .ok (.return_, 1) := by decide +kernel
theorem dX12_layLine_26 : decode cX12_layLine 26 = .ok (.aload_n 0, 1) := by decide +kernel
theorem dX12_layLine_27 : decode cX12_layLine 27 = .ok (.aload_n 0, 1) := by decide +kernel
theorem dX12_layLine_28 : decode cX12_layLine 28 = .ok (.getfield 23, 3) := by decide +kernel
theorem dX12_layLine_31 : decode cX12_layLine 31 = .ok (.invokevirtual 188, 3) := by decide +kernel
theorem dX12_layLine_34 : decode cX12_layLine 34 = .ok (.iconst 0, 1) := by decide +kernel
theorem dX12_layLine_35 : decode cX12_layLine 35 = .ok (.istore_n 1, 1) := by decide +kernel
theorem dX12_layLine_36 : decode cX12_layLine 36 = .ok (.iconst 0, 1) := by decide +kernel
theorem dX12_layLine_37 : decode cX12_layLine 37 = .ok (.istore_n 2, 1) := by decide +kernel
theorem dX12_layLine_38 : decode cX12_layLine 38 = .ok (.iload_n 2, 1) := by decide +kernel
theorem dX12_layLine_39 : decode cX12_layLine 39 = .ok (.aload_n 0, 1) := by decide +kernel
theorem dX12_layLine_40 : decode cX12_layLine 40 = .ok (.getfield 29, 3) := by decide +kernel
theorem dX12_layLine_43 : decode cX12_layLine 43 = .ok (.iconst 0, 1) := by decide +kernel
theorem dX12_layLine_44 : decode cX12_layLine 44 = .ok (.iaload, 1) := by decide +kernel
theorem dX12_layLine_45 : decode cX12_layLine 45 = .ok (.if_icmp .ge 25, 3) := by decide +kernel
theorem dX12_layLine_48 : decode cX12_layLine 48 = .ok (.iload_n 1, 1) := by decide +kernel
theorem dX12_layLine_49 : decode cX12_layLine 49 = .ok (.aload_n 0, 1) := by decide +kernel
theorem dX12_layLine_50 : decode cX12_layLine 50 = .ok (.getfield 53, 3) := by decide +kernel
theorem dX12_layLine_53 : decode cX12_layLine 53 = .ok (.aload_n 0, 1) := by decide +kernel
theorem dX12_layLine_54 : decode cX12_layLine 54 = .ok (.getfield 29, 3) := by decide +kernel
theorem dX12_layLine_57 : decode cX12_layLine 57 = .ok (.iconst 1, 1) := by decide +kernel
theorem dX12_layLine_58 : decode cX12_layLine 58 = .ok (.iload_n 2, 1) := by decide +kernel
theorem dX12_layLine_59 : decode cX12_layLine 59 = .ok (.iadd, 1) := by decide +kernel
theorem dX12_layLine_60 : decode cX12_layLine 60 = .ok (.iaload, 1) := by decide +kernel
theorem dX12_layLine_61 : decode cX12_layLine 61 = .ok (.iaload, 1) := by decide +kernel
theorem dX12_layLine_62 : decode cX12_layLine 62 = .ok (.ior, 1) := by decide +kernel
theorem dX12_layLine_63 : decode cX12_layLine 63 = .ok (.istore_n 1, 1) := by decide +kernel
theorem dX12_layLine_64 : decode cX12_layLine 64 = .ok (.iinc 2 1, 3) := by decide +kernel
theorem dX12_layLine_67 : decode cX12_layLine 67 = .ok (.goto (-29), 3) := by decide +kernel
theorem dX12_layLine_70 : decode cX12_layLine 70 = .ok (.aload_n 0, 1) := by decide +kernel
theorem dX12_layLine_71 : decode cX12_layLine 71 = .ok (.getfield 110, 3) := by decide +kernel
theorem dX12_layLine_74 : decode cX12_layLine 74 = .ok (.aload_n 0, 1) := by decide +kernel
theorem dX12_layLine_75 : decode cX12_layLine 75 = .ok (.getfield 205, 3) := by decide +kernel
theorem dX12_layLine_78 : decode cX12_layLine 78 = .ok (.if_icmp .ge 27, 3) := by decide +kernel
theorem dX12_layLine_81 : decode cX12_layLine 81 = .ok (.aload_n 0, 1) := by decide +kernel
theorem dX12_layLine_82 : decode cX12_layLine 82 = .ok (.aload_n 0, 1) := by decide +kernel
theorem dX12_layLine_83 : decode cX12_layLine 83 = .ok (.getfield 23, 3) := by decide +kernel
theorem dX12_layLine_86 : decode cX12_layLine 86 = .ok (.iload_n 1, 1) := by decide +kernel
theorem dX12_layLine_87 : decode cX12_layLine 87 = .ok (.aload_n 0, 1) := by decide +kernel
theorem dX12_layLine_88 : decode cX12_layLine 88 = .ok (.getfield 29, 3) := by decide +kernel
theorem dX12_layLine_91 : decode cX12_layLine 91 = .ok (.iconst 0, 1) := by decide +kernel
theorem dX12_layLine_92 : decode cX12_layLine 92 = .ok (.iaload, 1) := by decide +kernel
theorem dX12_layLine_93 : decode cX12_layLine 93 = .ok (.iconst 2, 1) := by decide +kernel
theorem dX12_layLine_94 : decode cX12_layLine 94 = .ok (.irem, 1) := by decide +kernel
theorem dX12_layLine_95 : decode cX12_layLine 95 = .ok (.aload_n 0, 1) := by decide +kernel
theorem dX12_layLine_96 : decode cX12_layLine 96 = .ok (.getfield 110, 3) := by decide +kernel
theorem dX12_layLine_99 : decode cX12_layLine 99 = .ok (.invokevirtual 267, 3) := by decide +kernel
theorem dX12_layLine_102 : decode cX12_layLine 102 = .ok (.ifCond .ne 14, 3) := by decide +kernel
theorem dX12_layLine_105 : decode cX12_layLine 105 = .ok (.aload_n 0, 1) := by decide +kernel
theorem dX12_layLine_106 : decode cX12_layLine 106 = .ok (.bipush 7, 2) := by decide +kernel
theorem dX12_layLine_108 : decode cX12_layLine 108 = .ok (.aload_n 0, 1) := by decide +kernel
theorem dX12_layLine_109 : decode cX12_layLine 109 = .ok (.getfield 104, 3) := by decide +kernel
theorem dX12_layLine_112 : decode cX12_layLine 112 = .ok (.invokevirtual 150, 3) := by decide +kernel
theorem dX12_layLine_115 : decode cX12_layLine 115 = .ok (.return_, 1) := by decide +kernel
theorem dX12_layLine_116 : decode cX12_layLine 116 = .ok (.aload_n 0, 1) := by decide +kernel
theorem dX12_layLine_117 : decode cX12_layLine 117 = .ok (.getfield 29, 3) := by decide +kernel
theorem dX12_layLine_120 : decode cX12_layLine 120 = .ok (.iconst 1, 1) := by decide +kernel
theorem dX12_layLine_121 : decode cX12_layLine 121 = .ok (.aload_n 0, 1) := by decide +kernel
theorem dX12_layLine_122 : decode cX12_layLine 122 = .ok (.getfield 29, 3) := by decide +kernel
theorem dX12_layLine_125 : decode cX12_layLine 125 = .ok (.iconst 0, 1) := by decide +kernel
theorem dX12_layLine_126 : decode cX12_layLine 126 = .ok (.iaload, 1) := by decide +kernel
theorem dX12_layLine_127 : decode cX12_layLine 127 = .ok (.iadd, 1) := by decide +kernel
theorem dX12_layLine_128 : decode cX12_layLine 128 = .ok (.aload_n 0, 1) := by decide +kernel
theorem dX12_layLine_129 : decode cX12_layLine 129 = .ok (.getfield 110, 3) := by decide +kernel
theorem dX12_layLine_132 : decode cX12_layLine 132 = .ok (.iastore, 1) := by decide +kernel
theorem dX12_layLine_133 : decode cX12_layLine 133 = .ok (.aload_n 0, 1) := by decide +kernel
theorem dX12_layLine_134 : decode cX12_layLine 134 = .ok (.getfield 29, 3) := by decide +kernel
theorem dX12_layLine_137 : decode cX12_layLine 137 = .ok (.iconst 0, 1) := by decide +kernel
theorem dX12_layLine_138 : decode cX12_layLine 138 = .ok (.dup2, 1) := by decide +kernel
theorem dX12_layLine_139 : decode cX12_layLine 139 = .ok (.iaload, 1) := by decide +kernel
theorem dX12_layLine_140 : decode cX12_layLine 140 = .ok (.iconst 1, 1) := by decide +kernel
theorem dX12_layLine_141 : decode cX12_layLine 141 = .ok (.iadd, 1) := by decide +kernel
theorem dX12_layLine_142 : decode cX12_layLine 142 = .ok (.iastore, 1) := by decide +kernel
theorem dX12_layLine_143 : decode cX12_layLine 143 = .ok (.aload_n 0, 1) := by decide +kernel
theorem dX12_layLine_144 : decode cX12_layLine 144 = .ok (.invokevirtual 144, 3) := by decide +kernel
theorem dX12_layLine_147 : decode cX12_layLine 147 = .ok (.return_, 1) := by decide +kernel
theorem dX12_fault_0 : decode cX12_fault 0 = .ok (.aload_n 0, 1) := by decide +kernel
theorem dX12_fault_1 : decode cX12_fault 1 = .ok (.iconst 0, 1) := by decide +kernel
theorem dX12_fault_2 : decode cX12_fault 2 = .ok (.putfield 85, 3) := by decide +kernel
theorem dX12_fault_5 : decode cX12_fault 5 = .ok (.aload_n 0, 1) := by decide +kernel
theorem dX12_fault_6 : decode cX12_fault 6 = .ok (.getfield 127, 3) := by decide +kernel
theorem dX12_fault_9 : decode cX12_fault 9 = .ok (.ireturn, 1) := by decide +kernel
theorem dX12_where_0 : decode cX12_where 0 = .ok (.aload_n 0, 1) := by decide +kernel
theorem dX12_where_1 : decode cX12_where 1 = .ok (.iconst 0, 1) := by decide +kernel
theorem dX12_where_2 : decode cX12_where 2 = .ok (.putfield 85, 3) := by decide +kernel
theorem dX12_where_5 : decode cX12_where 5 = .ok (.aload_n 0, 1) := by decide +kernel
theorem dX12_where_6 : decode cX12_where 6 = .ok (.getfield 88, 3) := by decide +kernel
theorem dX12_where_9 : decode cX12_where 9 = .ok (.iconst 4, 1) := by decide +kernel
theorem dX12_where_10 : decode cX12_where 10 = .ok (.if_icmp .ne 10, 3) := by decide +kernel
theorem dX12_where_13 : decode cX12_where 13 = .ok (.aload_n 0, 1) := by decide +kernel
theorem dX12_where_14 : decode cX12_where 14 = .ok (.getfield 13, 3) := by decide +kernel
theorem dX12_where_17 : decode cX12_where 17 = .ok (.goto 4, 3) := by decide +kernel
theorem dX12_where_20 : decode cX12_where 20 = .ok (.iconst (-1), 1) := by decide +kernel
theorem dX12_where_21 : decode cX12_where 21 = .ok (.ireturn, 1) := by decide +kernel
theorem dX12_hasSquare_0 : decode cX12_hasSquare 0 = .ok (.aload_n 0, 1) := by decide +kernel
theorem dX12_hasSquare_1 : decode cX12_hasSquare 1 = .ok (.bipush 21, 2) := by decide +kernel
theorem dX12_hasSquare_3 : decode cX12_hasSquare 3 = .ok (.iload_n 1, 1) := by decide +kernel
theorem dX12_hasSquare_4 : decode cX12_hasSquare 4 = .ok (.iadd, 1) := by decide +kernel
theorem dX12_hasSquare_5 : decode cX12_hasSquare 5 = .ok (.iaload, 1) := by decide +kernel
theorem dX12_hasSquare_6 : decode cX12_hasSquare 6 = .ok (.istore 5, 2) := by decide +kernel
theorem dX12_hasSquare_8 : decode cX12_hasSquare 8 = .ok (.aload_n 0, 1) := by decide +kernel
theorem dX12_hasSquare_9 : decode cX12_hasSquare 9 = .ok (.bipush 25, 2) := by decide +kernel
theorem dX12_hasSquare_11 : decode cX12_hasSquare 11 = .ok (.iload_n 1, 1) := by decide +kernel
theorem dX12_hasSquare_12 : decode cX12_hasSquare 12 = .ok (.iadd, 1) := by decide +kernel
theorem dX12_hasSquare_13 : decode cX12_hasSquare 13 = .ok (.iaload, 1) := by decide +kernel
theorem dX12_hasSquare_14 : decode cX12_hasSquare 14 = .ok (.istore 6, 2) := by decide +kernel
theorem dX12_hasSquare_16 : decode cX12_hasSquare 16 = .ok (.aload_n 0, 1) := by decide +kernel
theorem dX12_hasSquare_17 : decode cX12_hasSquare 17 = .ok (.bipush 17, 2) := by decide +kernel
theorem dX12_hasSquare_19 : decode cX12_hasSquare 19 = .ok (.iload_n 1, 1) := by decide +kernel
theorem dX12_hasSquare_20 : decode cX12_hasSquare 20 = .ok (.iadd, 1) := by decide +kernel
theorem dX12_hasSquare_21 : decode cX12_hasSquare 21 = .ok (.iaload, 1) := by decide +kernel
theorem dX12_hasSquare_22 : decode cX12_hasSquare 22 = .ok (.iconst 2, 1) := by decide +kernel
theorem dX12_hasSquare_23 : decode cX12_hasSquare 23 = .ok (.if_icmp .eq 5, 3) := by decide +kernel
theorem dX12_hasSquare_26 : decode cX12_hasSquare 26 = .ok (.iconst 1, 1) := by decide +kernel
theorem dX12_hasSquare_27 : decode cX12_hasSquare 27 = .ok (.ireturn, 1) := by decide +kernel
theorem dX12_hasSquare_28 : decode cX12_hasSquare 28 = .ok (.iload_n 2, 1) := by decide +kernel
theorem dX12_hasSquare_29 : decode cX12_hasSquare 29 = .ok (.iconst 2, 1) := by decide +kernel
theorem dX12_hasSquare_30 : decode cX12_hasSquare 30 = .ok (.irem, 1) := by decide +kernel
theorem dX12_hasSquare_31 : decode cX12_hasSquare 31 = .ok (.ifCond .ne 8, 3) := by decide +kernel
theorem dX12_hasSquare_34 : decode cX12_hasSquare 34 = .ok (.iload 5, 2) := by decide +kernel
theorem dX12_hasSquare_36 : decode cX12_hasSquare 36 = .ok (.goto 5, 3) := by decide +kernel
theorem dX12_hasSquare_39 : decode cX12_hasSquare 39 = .ok (.iload 6, 2) := by decide +kernel
theorem dX12_hasSquare_41 : decode cX12_hasSquare 41 = .ok (.istore 7, 2) := by decide +kernel
theorem dX12_hasSquare_43 : decode cX12_hasSquare 43 = .ok (.iload_n 2, 1) := by decide +kernel
theorem dX12_hasSquare_44 : decode cX12_hasSquare 44 = .ok (.iconst 2, 1) := by decide +kernel
theorem dX12_hasSquare_45 : decode cX12_hasSquare 45 = .ok (.irem, 1) := by decide +kernel
theorem dX12_hasSquare_46 : decode cX12_hasSquare 46 = .ok (.ifCond .ne 8, 3) := by decide +kernel
theorem dX12_hasSquare_49 : decode cX12_hasSquare 49 = .ok (.iload 6, 2) := by decide +kernel
theorem dX12_hasSquare_51 : decode cX12_hasSquare 51 = .ok (.goto 5, 3) := by decide +kernel
theorem dX12_hasSquare_54 : decode cX12_hasSquare 54 = .ok (.iload 5, 2) := by decide +kernel
theorem dX12_hasSquare_56 : decode cX12_hasSquare 56 = .ok (.istore 8, 2) := by decide +kernel
theorem dX12_hasSquare_58 : decode cX12_hasSquare 58 = .ok (.iload_n 2, 1) := by decide +kernel
theorem dX12_hasSquare_59 : decode cX12_hasSquare 59 = .ok (.ifCond .eq 8, 3) := by decide +kernel
theorem dX12_hasSquare_62 : decode cX12_hasSquare 62 = .ok (.iload_n 2, 1) := by decide +kernel
theorem dX12_hasSquare_63 : decode cX12_hasSquare 63 = .ok (.iconst 3, 1) := by decide +kernel
theorem dX12_hasSquare_64 : decode cX12_hasSquare 64 = .ok (.if_icmp .ne 10, 3) := by decide +kernel
theorem dX12_hasSquare_67 : decode cX12_hasSquare 67 = .ok (.iload 7, 2) := by decide +kernel
theorem dX12_hasSquare_69 : decode cX12_hasSquare 69 = .ok (.iconst 1, 1) := by decide +kernel
theorem dX12_hasSquare_70 : decode cX12_hasSquare 70 = .ok (.isub, 1) := by decide +kernel
theorem dX12_hasSquare_71 : decode cX12_hasSquare 71 = .ok (.goto 4, 3) := by decide +kernel
theorem dX12_hasSquare_74 : decode cX12_hasSquare 74 = .ok (.iconst 0, 1) := by decide +kernel
theorem dX12_hasSquare_75 : decode cX12_hasSquare 75 = .ok (.istore 9, 2) := by decide +kernel
theorem dX12_hasSquare_77 : decode cX12_hasSquare 77 = .ok (.iload_n 2, 1) := by decide +kernel
theorem dX12_hasSquare_78 : decode cX12_hasSquare 78 = .ok (.iconst 2, 1) := by decide +kernel
theorem dX12_hasSquare_79 : decode cX12_hasSquare 79 = .ok (.if_icmp .ge 10, 3) := by decide +kernel
theorem dX12_hasSquare_82 : decode cX12_hasSquare 82 = .ok (.iload 8, 2) := by decide +kernel
theorem dX12_hasSquare_84 : decode cX12_hasSquare 84 = .ok (.iconst 1, 1) := by decide +kernel
theorem dX12_hasSquare_85 : decode cX12_hasSquare 85 = .ok (.isub, 1) := by decide +kernel
theorem dX12_hasSquare_86 : decode cX12_hasSquare 86 = .ok (.goto 4, 3) := by decide +kernel
theorem dX12_hasSquare_89 : decode cX12_hasSquare 89 = .ok (.iconst 0, 1) := by decide +kernel
theorem dX12_hasSquare_90 : decode cX12_hasSquare 90 = .ok (.istore 10, 2) := by decide +kernel
theorem dX12_hasSquare_92 : decode cX12_hasSquare 92 = .ok (.iload_n 3, 1) := by decide +kernel
theorem dX12_hasSquare_93 : decode cX12_hasSquare 93 = .ok (.iload 9, 2) := by decide +kernel
theorem dX12_hasSquare_95 : decode cX12_hasSquare 95 = .ok (.if_icmp .ne 10, 3) := by decide +kernel
theorem dX12_hasSquare_98 : decode cX12_hasSquare 98 = .ok (.iload 4, 2) := by decide +kernel
theorem dX12_hasSquare_100 : decode cX12_hasSquare 100 = .ok (.iload 10, 2) := by decide +kernel
theorem dX12_hasSquare_102 : decode cX12_hasSquare 102 = .ok (.if_icmp .eq 7, 3) := by decide +kernel
theorem dX12_hasSquare_105 : decode cX12_hasSquare 105 = .ok (.iconst 1, 1) := by decide +kernel
theorem dX12_hasSquare_106 : decode cX12_hasSquare 106 = .ok (.goto 4, 3) := by decide +kernel
theorem dX12_hasSquare_109 : decode cX12_hasSquare 109 = .ok (.iconst 0, 1) := by decide +kernel
theorem dX12_hasSquare_110 : decode cX12_hasSquare 110 = .ok (.ireturn, 1) := by decide +kernel
theorem dX12_wideOf_0 : decode cX12_wideOf 0 = .ok (.aload_n 0, 1) := by decide +kernel
theorem dX12_wideOf_1 : decode cX12_wideOf 1 = .ok (.iload_n 2, 1) := by decide +kernel
theorem dX12_wideOf_2 : decode cX12_wideOf 2 = .ok (.iconst 2, 1) := by decide +kernel
theorem dX12_wideOf_3 : decode cX12_wideOf 3 = .ok (.irem, 1) := by decide +kernel
theorem dX12_wideOf_4 : decode cX12_wideOf 4 = .ok (.ifCond .ne 8, 3) := by decide +kernel
theorem dX12_wideOf_7 : decode cX12_wideOf 7 = .ok (.bipush 21, 2) := by decide +kernel
theorem dX12_wideOf_9 : decode cX12_wideOf 9 = .ok (.goto 5, 3) := by decide +kernel
theorem dX12_wideOf_12 : decode cX12_wideOf 12 = .ok (.bipush 25, 2) := by decide +kernel
theorem dX12_wideOf_14 : decode cX12_wideOf 14 = .ok (.iload_n 1, 1) := by decide +kernel
theorem dX12_wideOf_15 : decode cX12_wideOf 15 = .ok (.iadd, 1) := by decide +kernel
theorem dX12_wideOf_16 : decode cX12_wideOf 16 = .ok (.iaload, 1) := by decide +kernel
theorem dX12_wideOf_17 : decode cX12_wideOf 17 = .ok (.ireturn, 1) := by decide +kernel
theorem dX12_highOf_0 : decode cX12_highOf 0 = .ok (.aload_n 0, 1) := by decide +kernel
theorem dX12_highOf_1 : decode cX12_highOf 1 = .ok (.iload_n 2, 1) := by decide +kernel
theorem dX12_highOf_2 : decode cX12_highOf 2 = .ok (.iconst 2, 1) := by decide +kernel
theorem dX12_highOf_3 : decode cX12_highOf 3 = .ok (.irem, 1) := by decide +kernel
theorem dX12_highOf_4 : decode cX12_highOf 4 = .ok (.ifCond .ne 8, 3) := by decide +kernel
theorem dX12_highOf_7 : decode cX12_highOf 7 = .ok (.bipush 25, 2) := by decide +kernel
theorem dX12_highOf_9 : decode cX12_highOf 9 = .ok (.goto 5, 3) := by decide +kernel
theorem dX12_highOf_12 : decode cX12_highOf 12 = .ok (.bipush 21, 2) := by decide +kernel
theorem dX12_highOf_14 : decode cX12_highOf 14 = .ok (.iload_n 1, 1) := by decide +kernel
theorem dX12_highOf_15 : decode cX12_highOf 15 = .ok (.iadd, 1) := by decide +kernel
theorem dX12_highOf_16 : decode cX12_highOf 16 = .ok (.iaload, 1) := by decide +kernel
theorem dX12_highOf_17 : decode cX12_highOf 17 = .ok (.ireturn, 1) := by decide +kernel
theorem dX12_isAgain_0 : decode cX12_isAgain 0 = .ok (.iconst 0, 1) := by decide +kernel
theorem dX12_isAgain_1 : decode cX12_isAgain 1 = .ok (.istore_n 3, 1) := by decide +kernel
theorem dX12_isAgain_2 : decode cX12_isAgain 2 = .ok (.iload_n 3, 1) := by decide +kernel
theorem dX12_isAgain_3 : decode cX12_isAgain 3 = .ok (.iload_n 2, 1) := by decide +kernel
theorem dX12_isAgain_4 : decode cX12_isAgain 4 = .ok (.if_icmp .ge 133, 3) := by decide +kernel
theorem dX12_isAgain_7 : decode cX12_isAgain 7 = .ok (.aload_n 0, 1) := by decide +kernel
theorem dX12_isAgain_8 : decode cX12_isAgain 8 = .ok (.iload_n 1, 1) := by decide +kernel
theorem dX12_isAgain_9 : decode cX12_isAgain 9 = .ok (.iload_n 3, 1) := by decide +kernel
theorem dX12_isAgain_10 : decode cX12_isAgain 10 = .ok (.invokestatic 271, 3) := by decide +kernel
theorem dX12_isAgain_13 : decode cX12_isAgain 13 = .ok (.aload_n 0, 1) := by decide +kernel
theorem dX12_isAgain_14 : decode cX12_isAgain 14 = .ok (.iload_n 1, 1) := by decide +kernel
theorem dX12_isAgain_15 : decode cX12_isAgain 15 = .ok (.iload_n 2, 1) := by decide +kernel
theorem dX12_isAgain_16 : decode cX12_isAgain 16 = .ok (.invokestatic 271, 3) := by decide +kernel
theorem dX12_isAgain_19 : decode cX12_isAgain 19 = .ok (.if_icmp .ne 22, 3) := by decide +kernel
theorem dX12_isAgain_22 : decode cX12_isAgain 22 = .ok (.aload_n 0, 1) := by decide +kernel
theorem dX12_isAgain_23 : decode cX12_isAgain 23 = .ok (.iload_n 1, 1) := by decide +kernel
theorem dX12_isAgain_24 : decode cX12_isAgain 24 = .ok (.iload_n 3, 1) := by decide +kernel
theorem dX12_isAgain_25 : decode cX12_isAgain 25 = .ok (.invokestatic 275, 3) := by decide +kernel
theorem dX12_isAgain_28 : decode cX12_isAgain 28 = .ok (.aload_n 0, 1) := by decide +kernel
theorem dX12_isAgain_29 : decode cX12_isAgain 29 = .ok (.iload_n 1, 1) := by decide +kernel
theorem dX12_isAgain_30 : decode cX12_isAgain 30 = .ok (.iload_n 2, 1) := by decide +kernel
theorem dX12_isAgain_31 : decode cX12_isAgain 31 = .ok (.invokestatic 275, 3) := by decide +kernel
theorem dX12_isAgain_34 : decode cX12_isAgain 34 = .ok (.if_icmp .ne 7, 3) := by decide +kernel
theorem dX12_isAgain_37 : decode cX12_isAgain 37 = .ok (.iconst 1, 1) := by decide +kernel
theorem dX12_isAgain_38 : decode cX12_isAgain 38 = .ok (.goto 4, 3) := by decide +kernel
theorem dX12_isAgain_41 : decode cX12_isAgain 41 = .ok (.iconst 0, 1) := by decide +kernel
theorem dX12_isAgain_42 : decode cX12_isAgain 42 = .ok (.istore 4, 2) := by decide +kernel
theorem dX12_isAgain_44 : decode cX12_isAgain 44 = .ok (.iconst 0, 1) := by decide +kernel
theorem dX12_isAgain_45 : decode cX12_isAgain 45 = .ok (.istore 5, 2) := by decide +kernel
theorem dX12_isAgain_47 : decode cX12_isAgain 47 = .ok (.iload 5, 2) := by decide +kernel
theorem dX12_isAgain_49 : decode cX12_isAgain 49 = .ok (.aload_n 0, 1) := by decide +kernel
theorem dX12_isAgain_50 : decode cX12_isAgain 50 = .ok (.iload_n 1, 1) := by decide +kernel
theorem dX12_isAgain_51 : decode cX12_isAgain 51 = .ok (.iload_n 2, 1) := by decide +kernel
theorem dX12_isAgain_52 : decode cX12_isAgain 52 = .ok (.invokestatic 275, 3) := by decide +kernel
theorem dX12_isAgain_55 : decode cX12_isAgain 55 = .ok (.if_icmp .ge 69, 3) := by decide +kernel
theorem dX12_isAgain_58 : decode cX12_isAgain 58 = .ok (.iload 4, 2) := by decide +kernel
theorem dX12_isAgain_60 : decode cX12_isAgain 60 = .ok (.ifCond .eq 64, 3) := by decide +kernel
theorem dX12_isAgain_63 : decode cX12_isAgain 63 = .ok (.iconst 0, 1) := by decide +kernel
theorem dX12_isAgain_64 : decode cX12_isAgain 64 = .ok (.istore 6, 2) := by decide +kernel
theorem dX12_isAgain_66 : decode cX12_isAgain 66 = .ok (.iload 6, 2) := by decide +kernel
theorem dX12_isAgain_68 : decode cX12_isAgain 68 = .ok (.aload_n 0, 1) := by decide +kernel
theorem dX12_isAgain_69 : decode cX12_isAgain 69 = .ok (.iload_n 1, 1) := by decide +kernel
theorem dX12_isAgain_70 : decode cX12_isAgain 70 = .ok (.iload_n 2, 1) := by decide +kernel
theorem dX12_isAgain_71 : decode cX12_isAgain 71 = .ok (.invokestatic 271, 3) := by decide +kernel
theorem dX12_isAgain_74 : decode cX12_isAgain 74 = .ok (.if_icmp .ge 44, 3) := by decide +kernel
theorem dX12_isAgain_77 : decode cX12_isAgain 77 = .ok (.iload 4, 2) := by decide +kernel
theorem dX12_isAgain_79 : decode cX12_isAgain 79 = .ok (.ifCond .eq 30, 3) := by decide +kernel
theorem dX12_isAgain_82 : decode cX12_isAgain 82 = .ok (.aload_n 0, 1) := by decide +kernel
theorem dX12_isAgain_83 : decode cX12_isAgain 83 = .ok (.iload_n 1, 1) := by decide +kernel
theorem dX12_isAgain_84 : decode cX12_isAgain 84 = .ok (.iload_n 3, 1) := by decide +kernel
theorem dX12_isAgain_85 : decode cX12_isAgain 85 = .ok (.iload 6, 2) := by decide +kernel
theorem dX12_isAgain_87 : decode cX12_isAgain 87 = .ok (.iload 5, 2) := by decide +kernel
theorem dX12_isAgain_89 : decode cX12_isAgain 89 = .ok (.invokestatic 278, 3) := by decide +kernel
theorem dX12_isAgain_92 : decode cX12_isAgain 92 = .ok (.aload_n 0, 1) := by decide +kernel
theorem dX12_isAgain_93 : decode cX12_isAgain 93 = .ok (.iload_n 1, 1) := by decide +kernel
theorem dX12_isAgain_94 : decode cX12_isAgain 94 = .ok (.iload_n 2, 1) := by decide +kernel
theorem dX12_isAgain_95 : decode cX12_isAgain 95 = .ok (.iload 6, 2) := by decide +kernel
theorem dX12_isAgain_97 : decode cX12_isAgain 97 = .ok (.iload 5, 2) := by decide +kernel
theorem dX12_isAgain_99 : decode cX12_isAgain 99 = .ok (.invokestatic 278, 3) := by decide +kernel
theorem dX12_isAgain_102 : decode cX12_isAgain 102 = .ok (.if_icmp .ne 7, 3) := by decide +kernel
theorem dX12_isAgain_105 : decode cX12_isAgain 105 = .ok (.iconst 1, 1) := by decide +kernel
theorem dX12_isAgain_106 : decode cX12_isAgain 106 = .ok (.goto 4, 3) := by decide +kernel
theorem dX12_isAgain_109 : decode cX12_isAgain 109 = .ok (.iconst 0, 1) := by decide +kernel
theorem dX12_isAgain_110 : decode cX12_isAgain 110 = .ok (.istore 4, 2) := by decide +kernel
theorem dX12_isAgain_112 : decode cX12_isAgain 112 = .ok (.iinc 6 1, 3) := by decide +kernel
theorem dX12_isAgain_115 : decode cX12_isAgain 115 = .ok (.goto (-49), 3) := by decide +kernel
theorem dX12_isAgain_118 : decode cX12_isAgain 118 = .ok (.iinc 5 1, 3) := by decide +kernel
theorem dX12_isAgain_121 : decode cX12_isAgain 121 = .ok (.goto (-74), 3) := by decide +kernel
theorem dX12_isAgain_124 : decode cX12_isAgain 124 = .ok (.iload 4, 2) := by decide +kernel
theorem dX12_isAgain_126 : decode cX12_isAgain 126 = .ok (.ifCond .eq 5, 3) := by decide +kernel
theorem dX12_isAgain_129 : decode cX12_isAgain 129 = .ok (.iconst 1, 1) := by decide +kernel
theorem dX12_isAgain_130 : decode cX12_isAgain 130 = .ok (.ireturn, 1) := by decide +kernel
theorem dX12_isAgain_131 : decode cX12_isAgain 131 = .ok (.iinc 3 1, 3) := by decide +kernel
theorem dX12_isAgain_134 : decode cX12_isAgain 134 = .ok (.goto (-132), 3) := by decide +kernel
theorem dX12_isAgain_137 : decode cX12_isAgain 137 = .ok (.iconst 0, 1) := by decide +kernel
theorem dX12_isAgain_138 : decode cX12_isAgain 138 = .ok (.ireturn, 1) := by decide +kernel
theorem dX12_layLays_0 : decode cX12_layLays 0 = .ok (.aload_n 0, 1) := by decide +kernel
theorem dX12_layLays_1 : decode cX12_layLays 1 = .ok (.iconst 0, 1) := by decide +kernel
theorem dX12_layLays_2 : decode cX12_layLays 2 = .ok (.putfield 205, 3) := by decide +kernel
theorem dX12_layLays_5 : decode cX12_layLays 5 = .ok (.iconst 0, 1) := by decide +kernel
theorem dX12_layLays_6 : decode cX12_layLays 6 = .ok (.istore_n 2, 1) := by decide +kernel
theorem dX12_layLays_7 : decode cX12_layLays 7 = .ok (.iload_n 2, 1) := by decide +kernel
theorem dX12_layLays_8 : decode cX12_layLays 8 = .ok (.aload_n 1, 1) := by decide +kernel
theorem dX12_layLays_9 : decode cX12_layLays 9 = .ok (.iconst 4, 1) := by decide +kernel
theorem dX12_layLays_10 : decode cX12_layLays 10 = .ok (.iaload, 1) := by decide +kernel
theorem dX12_layLays_11 : decode cX12_layLays 11 = .ok (.if_icmp .ge 116, 3) := by decide +kernel
theorem dX12_layLays_14 : decode cX12_layLays 14 = .ok (.iconst 0, 1) := by decide +kernel
theorem dX12_layLays_15 : decode cX12_layLays 15 = .ok (.istore_n 3, 1) := by decide +kernel
theorem dX12_layLays_16 : decode cX12_layLays 16 = .ok (.iload_n 3, 1) := by decide +kernel
theorem dX12_layLays_17 : decode cX12_layLays 17 = .ok (.aload_n 1, 1) := by decide +kernel
theorem dX12_layLays_18 : decode cX12_layLays 18 = .ok (.iconst 3, 1) := by decide +kernel
theorem dX12_layLays_19 : decode cX12_layLays 19 = .ok (.iaload, 1) := by decide +kernel
theorem dX12_layLays_20 : decode cX12_layLays 20 = .ok (.if_icmp .ge 101, 3) := by decide +kernel
theorem dX12_layLays_23 : decode cX12_layLays 23 = .ok (.iconst 0, 1) := by decide +kernel
theorem dX12_layLays_24 : decode cX12_layLays 24 = .ok (.istore 4, 2) := by decide +kernel
theorem dX12_layLays_26 : decode cX12_layLays 26 = .ok (.iload 4, 2) := by decide +kernel
theorem dX12_layLays_28 : decode cX12_layLays 28 = .ok (.aload_n 1, 1) := by decide +kernel
theorem dX12_layLays_29 : decode cX12_layLays 29 = .ok (.bipush 10, 2) := by decide +kernel
theorem dX12_layLays_31 : decode cX12_layLays 31 = .ok (.iload_n 3, 1) := by decide +kernel
theorem dX12_layLays_32 : decode cX12_layLays 32 = .ok (.iadd, 1) := by decide +kernel
theorem dX12_layLays_33 : decode cX12_layLays 33 = .ok (.iaload, 1) := by decide +kernel
theorem dX12_layLays_34 : decode cX12_layLays 34 = .ok (.if_icmp .ge 81, 3) := by decide +kernel
theorem dX12_layLays_37 : decode cX12_layLays 37 = .ok (.iconst 0, 1) := by decide +kernel
theorem dX12_layLays_38 : decode cX12_layLays 38 = .ok (.istore 5, 2) := by decide +kernel
theorem dX12_layLays_40 : decode cX12_layLays 40 = .ok (.iload 5, 2) := by decide +kernel
theorem dX12_layLays_42 : decode cX12_layLays 42 = .ok (.aload_n 1, 1) := by decide +kernel
theorem dX12_layLays_43 : decode cX12_layLays 43 = .ok (.bipush 7, 2) := by decide +kernel
theorem dX12_layLays_45 : decode cX12_layLays 45 = .ok (.iload_n 3, 1) := by decide +kernel
theorem dX12_layLays_46 : decode cX12_layLays 46 = .ok (.iadd, 1) := by decide +kernel
theorem dX12_layLays_47 : decode cX12_layLays 47 = .ok (.iaload, 1) := by decide +kernel
theorem dX12_layLays_48 : decode cX12_layLays 48 = .ok (.if_icmp .ge 61, 3) := by decide +kernel
theorem dX12_layLays_51 : decode cX12_layLays 51 = .ok (.iconst 0, 1) := by decide +kernel
theorem dX12_layLays_52 : decode cX12_layLays 52 = .ok (.istore 6, 2) := by decide +kernel
theorem dX12_layLays_54 : decode cX12_layLays 54 = .ok (.iload 6, 2) := by decide +kernel
theorem dX12_layLays_56 : decode cX12_layLays 56 = .ok (.aload_n 1, 1) := by decide +kernel
theorem dX12_layLays_57 : decode cX12_layLays 57 = .ok (.bipush 29, 2) := by decide +kernel
theorem dX12_layLays_59 : decode cX12_layLays 59 = .ok (.iload_n 2, 1) := by decide +kernel
theorem dX12_layLays_60 : decode cX12_layLays 60 = .ok (.iadd, 1) := by decide +kernel
theorem dX12_layLays_61 : decode cX12_layLays 61 = .ok (.iaload, 1) := by decide +kernel
theorem dX12_layLays_62 : decode cX12_layLays 62 = .ok (.iconst 1, 1) := by decide +kernel
theorem dX12_layLays_63 : decode cX12_layLays 63 = .ok (.if_icmp .ne 7, 3) := by decide +kernel
theorem dX12_layLays_66 : decode cX12_layLays 66 = .ok (.iconst 4, 1) := by decide +kernel
theorem dX12_layLays_67 : decode cX12_layLays 67 = .ok (.goto 4, 3) := by decide +kernel
theorem dX12_layLays_70 : decode cX12_layLays 70 = .ok (.iconst 1, 1) := by decide +kernel
theorem dX12_layLays_71 : decode cX12_layLays 71 = .ok (.if_icmp .ge 32, 3) := by decide +kernel
theorem dX12_layLays_74 : decode cX12_layLays 74 = .ok (.aload_n 1, 1) := by decide +kernel
theorem dX12_layLays_75 : decode cX12_layLays 75 = .ok (.iload_n 2, 1) := by decide +kernel
theorem dX12_layLays_76 : decode cX12_layLays 76 = .ok (.iload 6, 2) := by decide +kernel
theorem dX12_layLays_78 : decode cX12_layLays 78 = .ok (.invokestatic 282, 3) := by decide +kernel
theorem dX12_layLays_81 : decode cX12_layLays 81 = .ok (.ifCond .ne 16, 3) := by decide +kernel
theorem dX12_layLays_84 : decode cX12_layLays 84 = .ok (.aload_n 0, 1) := by decide +kernel
theorem dX12_layLays_85 : decode cX12_layLays 85 = .ok (.aload_n 1, 1) := by decide +kernel
theorem dX12_layLays_86 : decode cX12_layLays 86 = .ok (.iload_n 2, 1) := by decide +kernel
theorem dX12_layLays_87 : decode cX12_layLays 87 = .ok (.iload_n 3, 1) := by decide +kernel
theorem dX12_layLays_88 : decode cX12_layLays 88 = .ok (.iload 5, 2) := by decide +kernel
theorem dX12_layLays_90 : decode cX12_layLays 90 = .ok (.iload 4, 2) := by decide +kernel
theorem dX12_layLays_92 : decode cX12_layLays 92 = .ok (.iload 6, 2) := by decide +kernel
theorem dX12_layLays_94 : decode cX12_layLays 94 = .ok (.invokevirtual 286, 3) := by decide +kernel
theorem dX12_layLays_97 : decode cX12_layLays 97 = .ok (.iinc 6 1, 3) := by decide +kernel
theorem dX12_layLays_100 : decode cX12_layLays 100 = .ok (.goto (-46), 3) := by decide +kernel
theorem dX12_layLays_103 : decode cX12_layLays 103 = .ok (.iinc 5 1, 3) := by decide +kernel
theorem dX12_layLays_106 : decode cX12_layLays 106 = .ok (.goto (-66), 3) := by decide +kernel
theorem dX12_layLays_109 : decode cX12_layLays 109 = .ok (.iinc 4 1, 3) := by decide +kernel
theorem dX12_layLays_112 : decode cX12_layLays 112 = .ok (.goto (-86), 3) := by decide +kernel
theorem dX12_layLays_115 : decode cX12_layLays 115 = .ok (.iinc 3 1, 3) := by decide +kernel
theorem dX12_layLays_118 : decode cX12_layLays 118 = .ok (.goto (-102), 3) := by decide +kernel
theorem dX12_layLays_121 : decode cX12_layLays 121 = .ok (.iinc 2 1, 3) := by decide +kernel
theorem dX12_layLays_124 : decode cX12_layLays 124 = .ok (.goto (-117), 3) := by decide +kernel
theorem dX12_layLays_127 : decode cX12_layLays 127 = .ok (.return_, 1) := by decide +kernel
theorem dX12_layOne_0 : decode cX12_layOne 0 = .ok (.iload 4, 2) := by decide +kernel
theorem dX12_layOne_2 : decode cX12_layOne 2 = .ok (.aload_n 1, 1) := by decide +kernel
theorem dX12_layOne_3 : decode cX12_layOne 3 = .ok (.iload_n 2, 1) := by decide +kernel
theorem dX12_layOne_4 : decode cX12_layOne 4 = .ok (.iload 6, 2) := by decide +kernel
theorem dX12_layOne_6 : decode cX12_layOne 6 = .ok (.invokestatic 271, 3) := by decide +kernel
theorem dX12_layOne_9 : decode cX12_layOne 9 = .ok (.iadd, 1) := by decide +kernel
theorem dX12_layOne_10 : decode cX12_layOne 10 = .ok (.aload_n 1, 1) := by decide +kernel
theorem dX12_layOne_11 : decode cX12_layOne 11 = .ok (.bipush 7, 2) := by decide +kernel
theorem dX12_layOne_13 : decode cX12_layOne 13 = .ok (.iload_n 3, 1) := by decide +kernel
theorem dX12_layOne_14 : decode cX12_layOne 14 = .ok (.iadd, 1) := by decide +kernel
theorem dX12_layOne_15 : decode cX12_layOne 15 = .ok (.iaload, 1) := by decide +kernel
theorem dX12_layOne_16 : decode cX12_layOne 16 = .ok (.if_icmp .gt 22, 3) := by decide +kernel
theorem dX12_layOne_19 : decode cX12_layOne 19 = .ok (.iload 5, 2) := by decide +kernel
theorem dX12_layOne_21 : decode cX12_layOne 21 = .ok (.aload_n 1, 1) := by decide +kernel
theorem dX12_layOne_22 : decode cX12_layOne 22 = .ok (.iload_n 2, 1) := by decide +kernel
theorem dX12_layOne_23 : decode cX12_layOne 23 = .ok (.iload 6, 2) := by decide +kernel
theorem dX12_layOne_25 : decode cX12_layOne 25 = .ok (.invokestatic 275, 3) := by decide +kernel
theorem dX12_layOne_28 : decode cX12_layOne 28 = .ok (.iadd, 1) := by decide +kernel
theorem dX12_layOne_29 : decode cX12_layOne 29 = .ok (.aload_n 1, 1) := by decide +kernel
theorem dX12_layOne_30 : decode cX12_layOne 30 = .ok (.bipush 10, 2) := by decide +kernel
theorem dX12_layOne_32 : decode cX12_layOne 32 = .ok (.iload_n 3, 1) := by decide +kernel
theorem dX12_layOne_33 : decode cX12_layOne 33 = .ok (.iadd, 1) := by decide +kernel
theorem dX12_layOne_34 : decode cX12_layOne 34 = .ok (.iaload, 1) := by decide +kernel
theorem dX12_layOne_35 : decode cX12_layOne 35 = .ok (.if_icmp .le 4, 3) := by decide +kernel
theorem dX12_layOne_38 : decode cX12_layOne 38 = .ok (.return_, 1) := by decide +kernel
theorem dX12_layOne_39 : decode cX12_layOne 39 = .ok (.iconst 0, 1) := by decide +kernel
theorem dX12_layOne_40 : decode cX12_layOne 40 = .ok (.istore 7, 2) := by decide +kernel
theorem dX12_layOne_42 : decode cX12_layOne 42 = .ok (.iconst 0, 1) := by decide +kernel
theorem dX12_layOne_43 : decode cX12_layOne 43 = .ok (.istore 8, 2) := by decide +kernel
theorem dX12_layOne_45 : decode cX12_layOne 45 = .ok (.iload 8, 2) := by decide +kernel
theorem dX12_layOne_47 : decode cX12_layOne 47 = .ok (.aload_n 1, 1) := by decide +kernel
theorem dX12_layOne_48 : decode cX12_layOne 48 = .ok (.iload_n 2, 1) := by decide +kernel
theorem dX12_layOne_49 : decode cX12_layOne 49 = .ok (.iload 6, 2) := by decide +kernel
theorem dX12_layOne_51 : decode cX12_layOne 51 = .ok (.invokestatic 275, 3) := by decide +kernel
theorem dX12_layOne_54 : decode cX12_layOne 54 = .ok (.if_icmp .ge 80, 3) := by decide +kernel
theorem dX12_layOne_57 : decode cX12_layOne 57 = .ok (.iconst 0, 1) := by decide +kernel
theorem dX12_layOne_58 : decode cX12_layOne 58 = .ok (.istore 9, 2) := by decide +kernel
theorem dX12_layOne_60 : decode cX12_layOne 60 = .ok (.iload 9, 2) := by decide +kernel
theorem dX12_layOne_62 : decode cX12_layOne 62 = .ok (.aload_n 1, 1) := by decide +kernel
theorem dX12_layOne_63 : decode cX12_layOne 63 = .ok (.iload_n 2, 1) := by decide +kernel
theorem dX12_layOne_64 : decode cX12_layOne 64 = .ok (.iload 6, 2) := by decide +kernel
theorem dX12_layOne_66 : decode cX12_layOne 66 = .ok (.invokestatic 271, 3) := by decide +kernel
theorem dX12_layOne_69 : decode cX12_layOne 69 = .ok (.if_icmp .ge 59, 3) := by decide +kernel
theorem dX12_layOne_72 : decode cX12_layOne 72 = .ok (.iload 7, 2) := by decide +kernel
theorem dX12_layOne_74 : decode cX12_layOne 74 = .ok (.aload_n 1, 1) := by decide +kernel
theorem dX12_layOne_75 : decode cX12_layOne 75 = .ok (.iload_n 2, 1) := by decide +kernel
theorem dX12_layOne_76 : decode cX12_layOne 76 = .ok (.iload 6, 2) := by decide +kernel
theorem dX12_layOne_78 : decode cX12_layOne 78 = .ok (.iload 9, 2) := by decide +kernel
theorem dX12_layOne_80 : decode cX12_layOne 80 = .ok (.iload 8, 2) := by decide +kernel
theorem dX12_layOne_82 : decode cX12_layOne 82 = .ok (.invokestatic 278, 3) := by decide +kernel
theorem dX12_layOne_85 : decode cX12_layOne 85 = .ok (.ifCond .eq 33, 3) := by decide +kernel
theorem dX12_layOne_88 : decode cX12_layOne 88 = .ok (.iconst 1, 1) := by decide +kernel
theorem dX12_layOne_89 : decode cX12_layOne 89 = .ok (.aload_n 1, 1) := by decide +kernel
theorem dX12_layOne_90 : decode cX12_layOne 90 = .ok (.bipush 13, 2) := by decide +kernel
theorem dX12_layOne_92 : decode cX12_layOne 92 = .ok (.iload_n 3, 1) := by decide +kernel
theorem dX12_layOne_93 : decode cX12_layOne 93 = .ok (.iadd, 1) := by decide +kernel
theorem dX12_layOne_94 : decode cX12_layOne 94 = .ok (.iaload, 1) := by decide +kernel
theorem dX12_layOne_95 : decode cX12_layOne 95 = .ok (.aload_n 1, 1) := by decide +kernel
theorem dX12_layOne_96 : decode cX12_layOne 96 = .ok (.bipush 7, 2) := by decide +kernel
theorem dX12_layOne_98 : decode cX12_layOne 98 = .ok (.iload_n 3, 1) := by decide +kernel
theorem dX12_layOne_99 : decode cX12_layOne 99 = .ok (.iadd, 1) := by decide +kernel
theorem dX12_layOne_100 : decode cX12_layOne 100 = .ok (.iaload, 1) := by decide +kernel
theorem dX12_layOne_101 : decode cX12_layOne 101 = .ok (.iload 5, 2) := by decide +kernel
theorem dX12_layOne_103 : decode cX12_layOne 103 = .ok (.iload 8, 2) := by decide +kernel
theorem dX12_layOne_105 : decode cX12_layOne 105 = .ok (.iadd, 1) := by decide +kernel
theorem dX12_layOne_106 : decode cX12_layOne 106 = .ok (.imul, 1) := by decide +kernel
theorem dX12_layOne_107 : decode cX12_layOne 107 = .ok (.iadd, 1) := by decide +kernel
theorem dX12_layOne_108 : decode cX12_layOne 108 = .ok (.iload 4, 2) := by decide +kernel
theorem dX12_layOne_110 : decode cX12_layOne 110 = .ok (.iadd, 1) := by decide +kernel
theorem dX12_layOne_111 : decode cX12_layOne 111 = .ok (.iload 9, 2) := by decide +kernel
theorem dX12_layOne_113 : decode cX12_layOne 113 = .ok (.iadd, 1) := by decide +kernel
theorem dX12_layOne_114 : decode cX12_layOne 114 = .ok (.ishl, 1) := by decide +kernel
theorem dX12_layOne_115 : decode cX12_layOne 115 = .ok (.goto 4, 3) := by decide +kernel
theorem dX12_layOne_118 : decode cX12_layOne 118 = .ok (.iconst 0, 1) := by decide +kernel
theorem dX12_layOne_119 : decode cX12_layOne 119 = .ok (.ior, 1) := by decide +kernel
theorem dX12_layOne_120 : decode cX12_layOne 120 = .ok (.istore 7, 2) := by decide +kernel
theorem dX12_layOne_122 : decode cX12_layOne 122 = .ok (.iinc 9 1, 3) := by decide +kernel
theorem dX12_layOne_125 : decode cX12_layOne 125 = .ok (.goto (-65), 3) := by decide +kernel
theorem dX12_layOne_128 : decode cX12_layOne 128 = .ok (.iinc 8 1, 3) := by decide +kernel
theorem dX12_layOne_131 : decode cX12_layOne 131 = .ok (.goto (-86), 3) := by decide +kernel
theorem dX12_layOne_134 : decode cX12_layOne 134 = .ok (.iload 7, 2) := by decide +kernel
theorem dX12_layOne_136 : decode cX12_layOne 136 = .ok (.aload_n 1, 1) := by decide +kernel
theorem dX12_layOne_137 : decode cX12_layOne 137 = .ok (.bipush 16, 2) := by decide +kernel
theorem dX12_layOne_139 : decode cX12_layOne 139 = .ok (.iaload, 1) := by decide +kernel
theorem dX12_layOne_140 : decode cX12_layOne 140 = .ok (.iand, 1) := by decide +kernel
theorem dX12_layOne_141 : decode cX12_layOne 141 = .ok (.ifCond .eq 4, 3) := by decide +kernel
theorem dX12_layOne_144 : decode cX12_layOne 144 = .ok (.return_, 1) := by decide +kernel
theorem dX12_layOne_145 : decode cX12_layOne 145 = .ok (.aload_n 0, 1) := by decide +kernel
theorem dX12_layOne_146 : decode cX12_layOne 146 = .ok (.getfield 38, 3) := by decide +kernel
theorem dX12_layOne_149 : decode cX12_layOne 149 = .ok (.aload_n 0, 1) := by decide +kernel
theorem dX12_layOne_150 : decode cX12_layOne 150 = .ok (.getfield 205, 3) := by decide +kernel
theorem dX12_layOne_153 : decode cX12_layOne 153 = .ok (.iload_n 2, 1) := by decide +kernel
theorem dX12_layOne_154 : decode cX12_layOne 154 = .ok (.iastore, 1) := by decide +kernel
theorem dX12_layOne_155 : decode cX12_layOne 155 = .ok (.aload_n 0, 1) := by decide +kernel
theorem dX12_layOne_156 : decode cX12_layOne 156 = .ok (.getfield 41, 3) := by decide +kernel
theorem dX12_layOne_159 : decode cX12_layOne 159 = .ok (.aload_n 0, 1) := by decide +kernel
theorem dX12_layOne_160 : decode cX12_layOne 160 = .ok (.getfield 205, 3) := by decide +kernel
theorem dX12_layOne_163 : decode cX12_layOne 163 = .ok (.iload_n 3, 1) := by decide +kernel
theorem dX12_layOne_164 : decode cX12_layOne 164 = .ok (.iastore, 1) := by decide +kernel
theorem dX12_layOne_165 : decode cX12_layOne 165 = .ok (.aload_n 0, 1) := by decide +kernel
theorem dX12_layOne_166 : decode cX12_layOne 166 = .ok (.getfield 44, 3) := by decide +kernel
theorem dX12_layOne_169 : decode cX12_layOne 169 = .ok (.aload_n 0, 1) := by decide +kernel
theorem dX12_layOne_170 : decode cX12_layOne 170 = .ok (.getfield 205, 3) := by decide +kernel
theorem dX12_layOne_173 : decode cX12_layOne 173 = .ok (.iload 4, 2) := by decide +kernel
theorem dX12_layOne_175 : decode cX12_layOne 175 = .ok (.iastore, 1) := by decide +kernel
theorem dX12_layOne_176 : decode cX12_layOne 176 = .ok (.aload_n 0, 1) := by decide +kernel
theorem dX12_layOne_177 : decode cX12_layOne 177 = .ok (.getfield 47, 3) := by decide +kernel
theorem dX12_layOne_180 : decode cX12_layOne 180 = .ok (.aload_n 0, 1) := by decide +kernel
theorem dX12_layOne_181 : decode cX12_layOne 181 = .ok (.getfield 205, 3) := by decide +kernel
theorem dX12_layOne_184 : decode cX12_layOne 184 = .ok (.iload 5, 2) := by decide +kernel
theorem dX12_layOne_186 : decode cX12_layOne 186 = .ok (.iastore, 1) := by decide +kernel
theorem dX12_layOne_187 : decode cX12_layOne 187 = .ok (.aload_n 0, 1) := by decide +kernel
theorem dX12_layOne_188 : decode cX12_layOne 188 = .ok (.getfield 50, 3) := by decide +kernel
theorem dX12_layOne_191 : decode cX12_layOne 191 = .ok (.aload_n 0, 1) := by decide +kernel
theorem dX12_layOne_192 : decode cX12_layOne 192 = .ok (.getfield 205, 3) := by decide +kernel
theorem dX12_layOne_195 : decode cX12_layOne 195 = .ok (.iload 6, 2) := by decide +kernel
theorem dX12_layOne_197 : decode cX12_layOne 197 = .ok (.iastore, 1) := by decide +kernel
theorem dX12_layOne_198 : decode cX12_layOne 198 = .ok (.aload_n 0, 1) := by decide +kernel
theorem dX12_layOne_199 : decode cX12_layOne 199 = .ok (.getfield 53, 3) := by decide +kernel
theorem dX12_layOne_202 : decode cX12_layOne 202 = .ok (.aload_n 0, 1) := by decide +kernel
theorem dX12_layOne_203 : decode cX12_layOne 203 = .ok (.getfield 205, 3) := by decide +kernel
theorem dX12_layOne_206 : decode cX12_layOne 206 = .ok (.iload 7, 2) := by decide +kernel
theorem dX12_layOne_208 : decode cX12_layOne 208 = .ok (.iastore, 1) := by decide +kernel
theorem dX12_layOne_209 : decode cX12_layOne 209 = .ok (.aload_n 0, 1) := by decide +kernel
theorem dX12_layOne_210 : decode cX12_layOne 210 = .ok (.getfield 56, 3) := by decide +kernel
theorem dX12_layOne_213 : decode cX12_layOne 213 = .ok (.aload_n 0, 1) := by decide +kernel
theorem dX12_layOne_214 : decode cX12_layOne 214 = .ok (.getfield 205, 3) := by decide +kernel
theorem dX12_layOne_217 : decode cX12_layOne 217 = .ok (.aload_n 1, 1) := by decide +kernel
theorem dX12_layOne_218 : decode cX12_layOne 218 = .ok (.iload_n 3, 1) := by decide +kernel
theorem dX12_layOne_219 : decode cX12_layOne 219 = .ok (.iload 7, 2) := by decide +kernel
theorem dX12_layOne_221 : decode cX12_layOne 221 = .ok (.invokestatic 290, 3) := by decide +kernel
theorem dX12_layOne_224 : decode cX12_layOne 224 = .ok (.iload 7, 2) := by decide +kernel
theorem dX12_layOne_226 : decode cX12_layOne 226 = .ok (.iconst (-1), 1) := by decide +kernel
theorem dX12_layOne_227 : decode cX12_layOne 227 = .ok (.ixor, 1) := by decide +kernel
theorem dX12_layOne_228 : decode cX12_layOne 228 = .ok (.iand, 1) := by decide +kernel
theorem dX12_layOne_229 : decode cX12_layOne 229 = .ok (.iastore, 1) := by decide +kernel
theorem dX12_layOne_230 : decode cX12_layOne 230 = .ok (.aload_n 0, 1) := by decide +kernel
theorem dX12_layOne_231 : decode cX12_layOne 231 = .ok (.dup, 1) := by decide +kernel
theorem dX12_layOne_232 : decode cX12_layOne 232 = .ok (.getfield 205, 3) := by decide +kernel
theorem dX12_layOne_235 : decode cX12_layOne 235 = .ok (.iconst 1, 1) := by decide +kernel
theorem dX12_layOne_236 : decode cX12_layOne 236 = .ok (.iadd, 1) := by decide +kernel
theorem dX12_layOne_237 : decode cX12_layOne 237 = .ok (.putfield 205, 3) := by decide +kernel
theorem dX12_layOne_240 : decode cX12_layOne 240 = .ok (.return_, 1) := by decide +kernel
theorem dX12_besides_0 : decode cX12_besides 0 = .ok (.aload_n 0, 1) := by decide +kernel
theorem dX12_besides_1 : decode cX12_besides 1 = .ok (.bipush 7, 2) := by decide +kernel
theorem dX12_besides_3 : decode cX12_besides 3 = .ok (.iload_n 1, 1) := by decide +kernel
theorem dX12_besides_4 : decode cX12_besides 4 = .ok (.iadd, 1) := by decide +kernel
theorem dX12_besides_5 : decode cX12_besides 5 = .ok (.iaload, 1) := by decide +kernel
theorem dX12_besides_6 : decode cX12_besides 6 = .ok (.istore_n 3, 1) := by decide +kernel
theorem dX12_besides_7 : decode cX12_besides 7 = .ok (.iload_n 3, 1) := by decide +kernel
theorem dX12_besides_8 : decode cX12_besides 8 = .ok (.aload_n 0, 1) := by decide +kernel
theorem dX12_besides_9 : decode cX12_besides 9 = .ok (.bipush 10, 2) := by decide +kernel
theorem dX12_besides_11 : decode cX12_besides 11 = .ok (.iload_n 1, 1) := by decide +kernel
theorem dX12_besides_12 : decode cX12_besides 12 = .ok (.iadd, 1) := by decide +kernel
theorem dX12_besides_13 : decode cX12_besides 13 = .ok (.iaload, 1) := by decide +kernel
theorem dX12_besides_14 : decode cX12_besides 14 = .ok (.imul, 1) := by decide +kernel
theorem dX12_besides_15 : decode cX12_besides 15 = .ok (.istore 4, 2) := by decide +kernel
theorem dX12_besides_17 : decode cX12_besides 17 = .ok (.iconst 0, 1) := by decide +kernel
theorem dX12_besides_18 : decode cX12_besides 18 = .ok (.istore 5, 2) := by decide +kernel
theorem dX12_besides_20 : decode cX12_besides 20 = .ok (.iconst 0, 1) := by decide +kernel
theorem dX12_besides_21 : decode cX12_besides 21 = .ok (.istore 6, 2) := by decide +kernel
theorem dX12_besides_23 : decode cX12_besides 23 = .ok (.iload 6, 2) := by decide +kernel
theorem dX12_besides_25 : decode cX12_besides 25 = .ok (.iload 4, 2) := by decide +kernel
theorem dX12_besides_27 : decode cX12_besides 27 = .ok (.if_icmp .ge 148, 3) := by decide +kernel
theorem dX12_besides_30 : decode cX12_besides 30 = .ok (.iload_n 2, 1) := by decide +kernel
theorem dX12_besides_31 : decode cX12_besides 31 = .ok (.aload_n 0, 1) := by decide +kernel
theorem dX12_besides_32 : decode cX12_besides 32 = .ok (.bipush 13, 2) := by decide +kernel
theorem dX12_besides_34 : decode cX12_besides 34 = .ok (.iload_n 1, 1) := by decide +kernel
theorem dX12_besides_35 : decode cX12_besides 35 = .ok (.iadd, 1) := by decide +kernel
theorem dX12_besides_36 : decode cX12_besides 36 = .ok (.iaload, 1) := by decide +kernel
theorem dX12_besides_37 : decode cX12_besides 37 = .ok (.iload 6, 2) := by decide +kernel
theorem dX12_besides_39 : decode cX12_besides 39 = .ok (.iadd, 1) := by decide +kernel
theorem dX12_besides_40 : decode cX12_besides 40 = .ok (.invokestatic 251, 3) := by decide +kernel
theorem dX12_besides_43 : decode cX12_besides 43 = .ok (.ifCond .ne 6, 3) := by decide +kernel
theorem dX12_besides_46 : decode cX12_besides 46 = .ok (.goto 123, 3) := by decide +kernel
theorem dX12_besides_49 : decode cX12_besides 49 = .ok (.iload 5, 2) := by decide +kernel
theorem dX12_besides_51 : decode cX12_besides 51 = .ok (.iload 6, 2) := by decide +kernel
theorem dX12_besides_53 : decode cX12_besides 53 = .ok (.iload_n 3, 1) := by decide +kernel
theorem dX12_besides_54 : decode cX12_besides 54 = .ok (.irem, 1) := by decide +kernel
theorem dX12_besides_55 : decode cX12_besides 55 = .ok (.ifCond .le 19, 3) := by decide +kernel
theorem dX12_besides_58 : decode cX12_besides 58 = .ok (.iconst 1, 1) := by decide +kernel
theorem dX12_besides_59 : decode cX12_besides 59 = .ok (.aload_n 0, 1) := by decide +kernel
theorem dX12_besides_60 : decode cX12_besides 60 = .ok (.bipush 13, 2) := by decide +kernel
theorem dX12_besides_62 : decode cX12_besides 62 = .ok (.iload_n 1, 1) := by decide +kernel
theorem dX12_besides_63 : decode cX12_besides 63 = .ok (.iadd, 1) := by decide +kernel
theorem dX12_besides_64 : decode cX12_besides 64 = .ok (.iaload, 1) := by decide +kernel
theorem dX12_besides_65 : decode cX12_besides 65 = .ok (.iload 6, 2) := by decide +kernel
theorem dX12_besides_67 : decode cX12_besides 67 = .ok (.iadd, 1) := by decide +kernel
theorem dX12_besides_68 : decode cX12_besides 68 = .ok (.iconst 1, 1) := by decide +kernel
theorem dX12_besides_69 : decode cX12_besides 69 = .ok (.isub, 1) := by decide +kernel
theorem dX12_besides_70 : decode cX12_besides 70 = .ok (.ishl, 1) := by decide +kernel
theorem dX12_besides_71 : decode cX12_besides 71 = .ok (.goto 4, 3) := by decide +kernel
theorem dX12_besides_74 : decode cX12_besides 74 = .ok (.iconst 0, 1) := by decide +kernel
theorem dX12_besides_75 : decode cX12_besides 75 = .ok (.ior, 1) := by decide +kernel
theorem dX12_besides_76 : decode cX12_besides 76 = .ok (.istore 5, 2) := by decide +kernel
theorem dX12_besides_78 : decode cX12_besides 78 = .ok (.iload 5, 2) := by decide +kernel
theorem dX12_besides_80 : decode cX12_besides 80 = .ok (.iload 6, 2) := by decide +kernel
theorem dX12_besides_82 : decode cX12_besides 82 = .ok (.iload_n 3, 1) := by decide +kernel
theorem dX12_besides_83 : decode cX12_besides 83 = .ok (.irem, 1) := by decide +kernel
theorem dX12_besides_84 : decode cX12_besides 84 = .ok (.iload_n 3, 1) := by decide +kernel
theorem dX12_besides_85 : decode cX12_besides 85 = .ok (.iconst 1, 1) := by decide +kernel
theorem dX12_besides_86 : decode cX12_besides 86 = .ok (.isub, 1) := by decide +kernel
theorem dX12_besides_87 : decode cX12_besides 87 = .ok (.if_icmp .ge 19, 3) := by decide +kernel
theorem dX12_besides_90 : decode cX12_besides 90 = .ok (.iconst 1, 1) := by decide +kernel
theorem dX12_besides_91 : decode cX12_besides 91 = .ok (.aload_n 0, 1) := by decide +kernel
theorem dX12_besides_92 : decode cX12_besides 92 = .ok (.bipush 13, 2) := by decide +kernel
theorem dX12_besides_94 : decode cX12_besides 94 = .ok (.iload_n 1, 1) := by decide +kernel
theorem dX12_besides_95 : decode cX12_besides 95 = .ok (.iadd, 1) := by decide +kernel
theorem dX12_besides_96 : decode cX12_besides 96 = .ok (.iaload, 1) := by decide +kernel
theorem dX12_besides_97 : decode cX12_besides 97 = .ok (.iload 6, 2) := by decide +kernel
theorem dX12_besides_99 : decode cX12_besides 99 = .ok (.iadd, 1) := by decide +kernel
theorem dX12_besides_100 : decode cX12_besides 100 = .ok (.iconst 1, 1) := by decide +kernel
theorem dX12_besides_101 : decode cX12_besides 101 = .ok (.iadd, 1) := by decide +kernel
theorem dX12_besides_102 : decode cX12_besides 102 = .ok (.ishl, 1) := by decide +kernel
theorem dX12_besides_103 : decode cX12_besides 103 = .ok (.goto 4, 3) := by decide +kernel
theorem dX12_besides_106 : decode cX12_besides 106 = .ok (.iconst 0, 1) := by decide +kernel
theorem dX12_besides_107 : decode cX12_besides 107 = .ok (.ior, 1) := by decide +kernel
theorem dX12_besides_108 : decode cX12_besides 108 = .ok (.istore 5, 2) := by decide +kernel
theorem dX12_besides_110 : decode cX12_besides 110 = .ok (.iload 5, 2) := by decide +kernel
theorem dX12_besides_112 : decode cX12_besides 112 = .ok (.iload 6, 2) := by decide +kernel
theorem dX12_besides_114 : decode cX12_besides 114 = .ok (.iload_n 3, 1) := by decide +kernel
theorem dX12_besides_115 : decode cX12_besides 115 = .ok (.if_icmp .lt 19, 3) := by decide +kernel
theorem dX12_besides_118 : decode cX12_besides 118 = .ok (.iconst 1, 1) := by decide +kernel
theorem dX12_besides_119 : decode cX12_besides 119 = .ok (.aload_n 0, 1) := by decide +kernel
theorem dX12_besides_120 : decode cX12_besides 120 = .ok (.bipush 13, 2) := by decide +kernel
theorem dX12_besides_122 : decode cX12_besides 122 = .ok (.iload_n 1, 1) := by decide +kernel
theorem dX12_besides_123 : decode cX12_besides 123 = .ok (.iadd, 1) := by decide +kernel
theorem dX12_besides_124 : decode cX12_besides 124 = .ok (.iaload, 1) := by decide +kernel
theorem dX12_besides_125 : decode cX12_besides 125 = .ok (.iload 6, 2) := by decide +kernel
theorem dX12_besides_127 : decode cX12_besides 127 = .ok (.iadd, 1) := by decide +kernel
theorem dX12_besides_128 : decode cX12_besides 128 = .ok (.iload_n 3, 1) := by decide +kernel
theorem dX12_besides_129 : decode cX12_besides 129 = .ok (.isub, 1) := by decide +kernel
theorem dX12_besides_130 : decode cX12_besides 130 = .ok (.ishl, 1) := by decide +kernel
theorem dX12_besides_131 : decode cX12_besides 131 = .ok (.goto 4, 3) := by decide +kernel
theorem dX12_besides_134 : decode cX12_besides 134 = .ok (.iconst 0, 1) := by decide +kernel
theorem dX12_besides_135 : decode cX12_besides 135 = .ok (.ior, 1) := by decide +kernel
theorem dX12_besides_136 : decode cX12_besides 136 = .ok (.istore 5, 2) := by decide +kernel
theorem dX12_besides_138 : decode cX12_besides 138 = .ok (.iload 5, 2) := by decide +kernel
theorem dX12_besides_140 : decode cX12_besides 140 = .ok (.iload 6, 2) := by decide +kernel
theorem dX12_besides_142 : decode cX12_besides 142 = .ok (.iload_n 3, 1) := by decide +kernel
theorem dX12_besides_143 : decode cX12_besides 143 = .ok (.iadd, 1) := by decide +kernel
theorem dX12_besides_144 : decode cX12_besides 144 = .ok (.iload 4, 2) := by decide +kernel
theorem dX12_besides_146 : decode cX12_besides 146 = .ok (.if_icmp .ge 19, 3) := by decide +kernel
theorem dX12_besides_149 : decode cX12_besides 149 = .ok (.iconst 1, 1) := by decide +kernel
theorem dX12_besides_150 : decode cX12_besides 150 = .ok (.aload_n 0, 1) := by decide +kernel
theorem dX12_besides_151 : decode cX12_besides 151 = .ok (.bipush 13, 2) := by decide +kernel
theorem dX12_besides_153 : decode cX12_besides 153 = .ok (.iload_n 1, 1) := by decide +kernel
theorem dX12_besides_154 : decode cX12_besides 154 = .ok (.iadd, 1) := by decide +kernel
theorem dX12_besides_155 : decode cX12_besides 155 = .ok (.iaload, 1) := by decide +kernel
theorem dX12_besides_156 : decode cX12_besides 156 = .ok (.iload 6, 2) := by decide +kernel
theorem dX12_besides_158 : decode cX12_besides 158 = .ok (.iadd, 1) := by decide +kernel
theorem dX12_besides_159 : decode cX12_besides 159 = .ok (.iload_n 3, 1) := by decide +kernel
theorem dX12_besides_160 : decode cX12_besides 160 = .ok (.iadd, 1) := by decide +kernel
theorem dX12_besides_161 : decode cX12_besides 161 = .ok (.ishl, 1) := by decide +kernel
theorem dX12_besides_162 : decode cX12_besides 162 = .ok (.goto 4, 3) := by decide +kernel
theorem dX12_besides_165 : decode cX12_besides 165 = .ok (.iconst 0, 1) := by decide +kernel
theorem dX12_besides_166 : decode cX12_besides 166 = .ok (.ior, 1) := by decide +kernel
theorem dX12_besides_167 : decode cX12_besides 167 = .ok (.istore 5, 2) := by decide +kernel
theorem dX12_besides_169 : decode cX12_besides 169 = .ok (.iinc 6 1, 3) := by decide +kernel
theorem dX12_besides_172 : decode cX12_besides 172 = .ok (.goto (-149), 3) := by decide +kernel
theorem dX12_besides_175 : decode cX12_besides 175 = .ok (.iload 5, 2) := by decide +kernel
theorem dX12_besides_177 : decode cX12_besides 177 = .ok (.ireturn, 1) := by decide +kernel
theorem dX12_isFree_0 : decode cX12_isFree 0 = .ok (.iload_n 2, 1) := by decide +kernel
theorem dX12_isFree_1 : decode cX12_isFree 1 = .ok (.aload_n 0, 1) := by decide +kernel
theorem dX12_isFree_2 : decode cX12_isFree 2 = .ok (.getfield 53, 3) := by decide +kernel
theorem dX12_isFree_5 : decode cX12_isFree 5 = .ok (.iload_n 3, 1) := by decide +kernel
theorem dX12_isFree_6 : decode cX12_isFree 6 = .ok (.iaload, 1) := by decide +kernel
theorem dX12_isFree_7 : decode cX12_isFree 7 = .ok (.iand, 1) := by decide +kernel
theorem dX12_isFree_8 : decode cX12_isFree 8 = .ok (.ifCond .ne 24, 3) := by decide +kernel
theorem dX12_isFree_11 : decode cX12_isFree 11 = .ok (.aload_n 1, 1) := by decide +kernel
theorem dX12_isFree_12 : decode cX12_isFree 12 = .ok (.iconst 2, 1) := by decide +kernel
theorem dX12_isFree_13 : decode cX12_isFree 13 = .ok (.iaload, 1) := by decide +kernel
theorem dX12_isFree_14 : decode cX12_isFree 14 = .ok (.ifCond .eq 14, 3) := by decide +kernel
theorem dX12_isFree_17 : decode cX12_isFree 17 = .ok (.iload_n 2, 1) := by decide +kernel
theorem dX12_isFree_18 : decode cX12_isFree 18 = .ok (.aload_n 0, 1) := by decide +kernel
theorem dX12_isFree_19 : decode cX12_isFree 19 = .ok (.getfield 56, 3) := by decide +kernel
theorem dX12_isFree_22 : decode cX12_isFree 22 = .ok (.iload_n 3, 1) := by decide +kernel
theorem dX12_isFree_23 : decode cX12_isFree 23 = .ok (.iaload, 1) := by decide +kernel
theorem dX12_isFree_24 : decode cX12_isFree 24 = .ok (.iand, 1) := by decide +kernel
theorem dX12_isFree_25 : decode cX12_isFree 25 = .ok (.ifCond .ne 7, 3) := by decide +kernel
theorem dX12_isFree_28 : decode cX12_isFree 28 = .ok (.iconst 1, 1) := by decide +kernel
theorem dX12_isFree_29 : decode cX12_isFree 29 = .ok (.goto 4, 3) := by decide +kernel
theorem dX12_isFree_32 : decode cX12_isFree 32 = .ok (.iconst 0, 1) := by decide +kernel
theorem dX12_isFree_33 : decode cX12_isFree 33 = .ok (.ireturn, 1) := by decide +kernel
theorem dX12_mayIn_0 : decode cX12_mayIn 0 = .ok (.aload_n 0, 1) := by decide +kernel
theorem dX12_mayIn_1 : decode cX12_mayIn 1 = .ok (.aload_n 1, 1) := by decide +kernel
theorem dX12_mayIn_2 : decode cX12_mayIn 2 = .ok (.iload_n 2, 1) := by decide +kernel
theorem dX12_mayIn_3 : decode cX12_mayIn 3 = .ok (.iload 4, 2) := by decide +kernel
theorem dX12_mayIn_5 : decode cX12_mayIn 5 = .ok (.invokevirtual 293, 3) := by decide +kernel
theorem dX12_mayIn_8 : decode cX12_mayIn 8 = .ok (.ifCond .eq 40, 3) := by decide +kernel
theorem dX12_mayIn_11 : decode cX12_mayIn 11 = .ok (.aload_n 1, 1) := by decide +kernel
theorem dX12_mayIn_12 : decode cX12_mayIn 12 = .ok (.bipush 33, 2) := by decide +kernel
theorem dX12_mayIn_14 : decode cX12_mayIn 14 = .ok (.aload_n 0, 1) := by decide +kernel
theorem dX12_mayIn_15 : decode cX12_mayIn 15 = .ok (.getfield 38, 3) := by decide +kernel
theorem dX12_mayIn_18 : decode cX12_mayIn 18 = .ok (.iload 4, 2) := by decide +kernel
theorem dX12_mayIn_20 : decode cX12_mayIn 20 = .ok (.iaload, 1) := by decide +kernel
theorem dX12_mayIn_21 : decode cX12_mayIn 21 = .ok (.iadd, 1) := by decide +kernel
theorem dX12_mayIn_22 : decode cX12_mayIn 22 = .ok (.iaload, 1) := by decide +kernel
theorem dX12_mayIn_23 : decode cX12_mayIn 23 = .ok (.ifCond .eq 21, 3) := by decide +kernel
theorem dX12_mayIn_26 : decode cX12_mayIn 26 = .ok (.aload_n 1, 1) := by decide +kernel
theorem dX12_mayIn_27 : decode cX12_mayIn 27 = .ok (.bipush 33, 2) := by decide +kernel
theorem dX12_mayIn_29 : decode cX12_mayIn 29 = .ok (.aload_n 0, 1) := by decide +kernel
theorem dX12_mayIn_30 : decode cX12_mayIn 30 = .ok (.getfield 38, 3) := by decide +kernel
theorem dX12_mayIn_33 : decode cX12_mayIn 33 = .ok (.iload 4, 2) := by decide +kernel
theorem dX12_mayIn_35 : decode cX12_mayIn 35 = .ok (.iaload, 1) := by decide +kernel
theorem dX12_mayIn_36 : decode cX12_mayIn 36 = .ok (.iadd, 1) := by decide +kernel
theorem dX12_mayIn_37 : decode cX12_mayIn 37 = .ok (.iaload, 1) := by decide +kernel
theorem dX12_mayIn_38 : decode cX12_mayIn 38 = .ok (.iload_n 3, 1) := by decide +kernel
theorem dX12_mayIn_39 : decode cX12_mayIn 39 = .ok (.iconst 1, 1) := by decide +kernel
theorem dX12_mayIn_40 : decode cX12_mayIn 40 = .ok (.iadd, 1) := by decide +kernel
theorem dX12_mayIn_41 : decode cX12_mayIn 41 = .ok (.if_icmp .ne 7, 3) := by decide +kernel
theorem dX12_mayIn_44 : decode cX12_mayIn 44 = .ok (.iconst 1, 1) := by decide +kernel
theorem dX12_mayIn_45 : decode cX12_mayIn 45 = .ok (.goto 4, 3) := by decide +kernel
theorem dX12_mayIn_48 : decode cX12_mayIn 48 = .ok (.iconst 0, 1) := by decide +kernel
theorem dX12_mayIn_49 : decode cX12_mayIn 49 = .ok (.ireturn, 1) := by decide +kernel
theorem dX12_isLay_0 : decode cX12_isLay 0 = .ok (.aload_n 0, 1) := by decide +kernel
theorem dX12_isLay_1 : decode cX12_isLay 1 = .ok (.getfield 185, 3) := by decide +kernel
theorem dX12_isLay_4 : decode cX12_isLay 4 = .ok (.ifCond .eq 21, 3) := by decide +kernel
theorem dX12_isLay_7 : decode cX12_isLay 7 = .ok (.iload_n 1, 1) := by decide +kernel
theorem dX12_isLay_8 : decode cX12_isLay 8 = .ok (.iconst 0, 1) := by decide +kernel
theorem dX12_isLay_9 : decode cX12_isLay 9 = .ok (.aload_n 0, 1) := by decide +kernel
theorem dX12_isLay_10 : decode cX12_isLay 10 = .ok (.getfield 205, 3) := by decide +kernel
theorem dX12_isLay_13 : decode cX12_isLay 13 = .ok (.iconst 1, 1) := by decide +kernel
theorem dX12_isLay_14 : decode cX12_isLay 14 = .ok (.isub, 1) := by decide +kernel
theorem dX12_isLay_15 : decode cX12_isLay 15 = .ok (.invokestatic 168, 3) := by decide +kernel
theorem dX12_isLay_18 : decode cX12_isLay 18 = .ok (.ifCond .eq 7, 3) := by decide +kernel
theorem dX12_isLay_21 : decode cX12_isLay 21 = .ok (.iconst 1, 1) := by decide +kernel
theorem dX12_isLay_22 : decode cX12_isLay 22 = .ok (.goto 4, 3) := by decide +kernel
theorem dX12_isLay_25 : decode cX12_isLay 25 = .ok (.iconst 0, 1) := by decide +kernel
theorem dX12_isLay_26 : decode cX12_isLay 26 = .ok (.ireturn, 1) := by decide +kernel
theorem dX12_isBoard_0 : decode cX12_isBoard 0 = .ok (.aload_n 0, 1) := by decide +kernel
theorem dX12_isBoard_1 : decode cX12_isBoard 1 = .ok (.getfield 185, 3) := by decide +kernel
theorem dX12_isBoard_4 : decode cX12_isBoard 4 = .ok (.ifCond .eq 23, 3) := by decide +kernel
theorem dX12_isBoard_7 : decode cX12_isBoard 7 = .ok (.iload_n 1, 1) := by decide +kernel
theorem dX12_isBoard_8 : decode cX12_isBoard 8 = .ok (.iconst 0, 1) := by decide +kernel
theorem dX12_isBoard_9 : decode cX12_isBoard 9 = .ok (.aload_n 0, 1) := by decide +kernel
theorem dX12_isBoard_10 : decode cX12_isBoard 10 = .ok (.getfield 20, 3) := by decide +kernel
theorem dX12_isBoard_13 : decode cX12_isBoard 13 = .ok (.iconst 3, 1) := by decide +kernel
theorem dX12_isBoard_14 : decode cX12_isBoard 14 = .ok (.iaload, 1) := by decide +kernel
theorem dX12_isBoard_15 : decode cX12_isBoard 15 = .ok (.iconst 1, 1) := by decide +kernel
theorem dX12_isBoard_16 : decode cX12_isBoard 16 = .ok (.isub, 1) := by decide +kernel
theorem dX12_isBoard_17 : decode cX12_isBoard 17 = .ok (.invokestatic 168, 3) := by decide +kernel
theorem dX12_isBoard_20 : decode cX12_isBoard 20 = .ok (.ifCond .eq 7, 3) := by decide +kernel
theorem dX12_isBoard_23 : decode cX12_isBoard 23 = .ok (.iconst 1, 1) := by decide +kernel
theorem dX12_isBoard_24 : decode cX12_isBoard 24 = .ok (.goto 4, 3) := by decide +kernel
theorem dX12_isBoard_27 : decode cX12_isBoard 27 = .ok (.iconst 0, 1) := by decide +kernel
theorem dX12_isBoard_28 : decode cX12_isBoard 28 = .ok (.ireturn, 1) := by decide +kernel
theorem dX12_standNow_0 : decode cX12_standNow 0 = .ok (.iconst 0, 1) := by decide +kernel
theorem dX12_standNow_1 : decode cX12_standNow 1 = .ok (.istore_n 1, 1) := by decide +kernel
theorem dX12_standNow_2 : decode cX12_standNow 2 = .ok (.iconst 0, 1) := by decide +kernel
theorem dX12_standNow_3 : decode cX12_standNow 3 = .ok (.istore_n 2, 1) := by decide +kernel
theorem dX12_standNow_4 : decode cX12_standNow 4 = .ok (.iload_n 2, 1) := by decide +kernel
theorem dX12_standNow_5 : decode cX12_standNow 5 = .ok (.aload_n 0, 1) := by decide +kernel
theorem dX12_standNow_6 : decode cX12_standNow 6 = .ok (.getfield 26, 3) := by decide +kernel
theorem dX12_standNow_9 : decode cX12_standNow 9 = .ok (.iconst 0, 1) := by decide +kernel
theorem dX12_standNow_10 : decode cX12_standNow 10 = .ok (.iaload, 1) := by decide +kernel
theorem dX12_standNow_11 : decode cX12_standNow 11 = .ok (.if_icmp .ge 25, 3) := by decide +kernel
theorem dX12_standNow_14 : decode cX12_standNow 14 = .ok (.iload_n 1, 1) := by decide +kernel
theorem dX12_standNow_15 : decode cX12_standNow 15 = .ok (.aload_n 0, 1) := by decide +kernel
theorem dX12_standNow_16 : decode cX12_standNow 16 = .ok (.getfield 53, 3) := by decide +kernel
theorem dX12_standNow_19 : decode cX12_standNow 19 = .ok (.aload_n 0, 1) := by decide +kernel
theorem dX12_standNow_20 : decode cX12_standNow 20 = .ok (.getfield 26, 3) := by decide +kernel
theorem dX12_standNow_23 : decode cX12_standNow 23 = .ok (.iconst 1, 1) := by decide +kernel
theorem dX12_standNow_24 : decode cX12_standNow 24 = .ok (.iload_n 2, 1) := by decide +kernel
theorem dX12_standNow_25 : decode cX12_standNow 25 = .ok (.iadd, 1) := by decide +kernel
theorem dX12_standNow_26 : decode cX12_standNow 26 = .ok (.iaload, 1) := by decide +kernel
theorem dX12_standNow_27 : decode cX12_standNow 27 = .ok (.iaload, 1) := by decide +kernel
theorem dX12_standNow_28 : decode cX12_standNow 28 = .ok (.ior, 1) := by decide +kernel
theorem dX12_standNow_29 : decode cX12_standNow 29 = .ok (.istore_n 1, 1) := by decide +kernel
theorem dX12_standNow_30 : decode cX12_standNow 30 = .ok (.iinc 2 1, 3) := by decide +kernel
theorem dX12_standNow_33 : decode cX12_standNow 33 = .ok (.goto (-29), 3) := by decide +kernel
theorem dX12_standNow_36 : decode cX12_standNow 36 = .ok (.iload_n 1, 1) := by decide +kernel
theorem dX12_standNow_37 : decode cX12_standNow 37 = .ok (.aload_n 0, 1) := by decide +kernel
theorem dX12_standNow_38 : decode cX12_standNow 38 = .ok (.getfield 26, 3) := by decide +kernel
theorem dX12_standNow_41 : decode cX12_standNow 41 = .ok (.iconst 0, 1) := by decide +kernel
theorem dX12_standNow_42 : decode cX12_standNow 42 = .ok (.iaload, 1) := by decide +kernel
theorem dX12_standNow_43 : decode cX12_standNow 43 = .ok (.iconst 2, 1) := by decide +kernel
theorem dX12_standNow_44 : decode cX12_standNow 44 = .ok (.irem, 1) := by decide +kernel
theorem dX12_standNow_45 : decode cX12_standNow 45 = .ok (.bipush 14, 2) := by decide +kernel
theorem dX12_standNow_47 : decode cX12_standNow 47 = .ok (.ishl, 1) := by decide +kernel
theorem dX12_standNow_48 : decode cX12_standNow 48 = .ok (.ior, 1) := by decide +kernel
theorem dX12_standNow_49 : decode cX12_standNow 49 = .ok (.ireturn, 1) := by decide +kernel
theorem dX12_takenOf_0 : decode cX12_takenOf 0 = .ok (.iload_n 0, 1) := by decide +kernel
theorem dX12_takenOf_1 : decode cX12_takenOf 1 = .ok (.sipush 16383, 3) := by decide +kernel
theorem dX12_takenOf_4 : decode cX12_takenOf 4 = .ok (.iand, 1) := by decide +kernel
theorem dX12_takenOf_5 : decode cX12_takenOf 5 = .ok (.ireturn, 1) := by decide +kernel
theorem dX12_whoOf_0 : decode cX12_whoOf 0 = .ok (.iload_n 0, 1) := by decide +kernel
theorem dX12_whoOf_1 : decode cX12_whoOf 1 = .ok (.bipush 14, 2) := by decide +kernel
theorem dX12_whoOf_3 : decode cX12_whoOf 3 = .ok (.ishr, 1) := by decide +kernel
theorem dX12_whoOf_4 : decode cX12_whoOf 4 = .ok (.ireturn, 1) := by decide +kernel
theorem dX12_mayBe_0 : decode cX12_mayBe 0 = .ok (.aload_n 0, 1) := by decide +kernel
theorem dX12_mayBe_1 : decode cX12_mayBe 1 = .ok (.aload_n 0, 1) := by decide +kernel
theorem dX12_mayBe_2 : decode cX12_mayBe 2 = .ok (.getfield 20, 3) := by decide +kernel
theorem dX12_mayBe_5 : decode cX12_mayBe 5 = .ok (.iload_n 1, 1) := by decide +kernel
theorem dX12_mayBe_6 : decode cX12_mayBe 6 = .ok (.invokestatic 296, 3) := by decide +kernel
theorem dX12_mayBe_9 : decode cX12_mayBe 9 = .ok (.iload_n 1, 1) := by decide +kernel
theorem dX12_mayBe_10 : decode cX12_mayBe 10 = .ok (.invokestatic 299, 3) := by decide +kernel
theorem dX12_mayBe_13 : decode cX12_mayBe 13 = .ok (.iload_n 2, 1) := by decide +kernel
theorem dX12_mayBe_14 : decode cX12_mayBe 14 = .ok (.invokevirtual 267, 3) := by decide +kernel
theorem dX12_mayBe_17 : decode cX12_mayBe 17 = .ok (.ireturn, 1) := by decide +kernel
theorem dX12_behind_0 : decode cX12_behind 0 = .ok (.iload_n 1, 1) := by decide +kernel
theorem dX12_behind_1 : decode cX12_behind 1 = .ok (.aload_n 0, 1) := by decide +kernel
theorem dX12_behind_2 : decode cX12_behind 2 = .ok (.getfield 53, 3) := by decide +kernel
theorem dX12_behind_5 : decode cX12_behind 5 = .ok (.iload_n 2, 1) := by decide +kernel
theorem dX12_behind_6 : decode cX12_behind 6 = .ok (.iaload, 1) := by decide +kernel
theorem dX12_behind_7 : decode cX12_behind 7 = .ok (.ior, 1) := by decide +kernel
theorem dX12_behind_8 : decode cX12_behind 8 = .ok (.sipush 16384, 3) := by decide +kernel
theorem dX12_behind_11 : decode cX12_behind 11 = .ok (.ixor, 1) := by decide +kernel
theorem dX12_behind_12 : decode cX12_behind 12 = .ok (.ireturn, 1) := by decide +kernel
theorem dX12_manyMay_0 : decode cX12_manyMay 0 = .ok (.iconst 0, 1) := by decide +kernel
theorem dX12_manyMay_1 : decode cX12_manyMay 1 = .ok (.istore_n 2, 1) := by decide +kernel
theorem dX12_manyMay_2 : decode cX12_manyMay 2 = .ok (.iconst 0, 1) := by decide +kernel
theorem dX12_manyMay_3 : decode cX12_manyMay 3 = .ok (.istore_n 3, 1) := by decide +kernel
theorem dX12_manyMay_4 : decode cX12_manyMay 4 = .ok (.iload_n 3, 1) := by decide +kernel
theorem dX12_manyMay_5 : decode cX12_manyMay 5 = .ok (.aload_n 0, 1) := by decide +kernel
theorem dX12_manyMay_6 : decode cX12_manyMay 6 = .ok (.getfield 205, 3) := by decide +kernel
theorem dX12_manyMay_9 : decode cX12_manyMay 9 = .ok (.if_icmp .ge 26, 3) := by decide +kernel
theorem dX12_manyMay_12 : decode cX12_manyMay 12 = .ok (.iload_n 2, 1) := by decide +kernel
theorem dX12_manyMay_13 : decode cX12_manyMay 13 = .ok (.aload_n 0, 1) := by decide +kernel
theorem dX12_manyMay_14 : decode cX12_manyMay 14 = .ok (.iload_n 1, 1) := by decide +kernel
theorem dX12_manyMay_15 : decode cX12_manyMay 15 = .ok (.iload_n 3, 1) := by decide +kernel
theorem dX12_manyMay_16 : decode cX12_manyMay 16 = .ok (.invokevirtual 302, 3) := by decide +kernel
theorem dX12_manyMay_19 : decode cX12_manyMay 19 = .ok (.ifCond .eq 7, 3) := by decide +kernel
theorem dX12_manyMay_22 : decode cX12_manyMay 22 = .ok (.iconst 1, 1) := by decide +kernel
theorem dX12_manyMay_23 : decode cX12_manyMay 23 = .ok (.goto 4, 3) := by decide +kernel
theorem dX12_manyMay_26 : decode cX12_manyMay 26 = .ok (.iconst 0, 1) := by decide +kernel
theorem dX12_manyMay_27 : decode cX12_manyMay 27 = .ok (.iadd, 1) := by decide +kernel
theorem dX12_manyMay_28 : decode cX12_manyMay 28 = .ok (.istore_n 2, 1) := by decide +kernel
theorem dX12_manyMay_29 : decode cX12_manyMay 29 = .ok (.iinc 3 1, 3) := by decide +kernel
theorem dX12_manyMay_32 : decode cX12_manyMay 32 = .ok (.goto (-28), 3) := by decide +kernel
theorem dX12_manyMay_35 : decode cX12_manyMay 35 = .ok (.iload_n 2, 1) := by decide +kernel
theorem dX12_manyMay_36 : decode cX12_manyMay 36 = .ok (.ireturn, 1) := by decide +kernel
theorem dX12_mayAt_0 : decode cX12_mayAt 0 = .ok (.iconst 0, 1) := by decide +kernel
theorem dX12_mayAt_1 : decode cX12_mayAt 1 = .ok (.istore_n 3, 1) := by decide +kernel
theorem dX12_mayAt_2 : decode cX12_mayAt 2 = .ok (.iconst 0, 1) := by decide +kernel
theorem dX12_mayAt_3 : decode cX12_mayAt 3 = .ok (.istore 4, 2) := by decide +kernel
theorem dX12_mayAt_5 : decode cX12_mayAt 5 = .ok (.iload 4, 2) := by decide +kernel
theorem dX12_mayAt_7 : decode cX12_mayAt 7 = .ok (.aload_n 0, 1) := by decide +kernel
theorem dX12_mayAt_8 : decode cX12_mayAt 8 = .ok (.getfield 205, 3) := by decide +kernel
theorem dX12_mayAt_11 : decode cX12_mayAt 11 = .ok (.if_icmp .ge 33, 3) := by decide +kernel
theorem dX12_mayAt_14 : decode cX12_mayAt 14 = .ok (.aload_n 0, 1) := by decide +kernel
theorem dX12_mayAt_15 : decode cX12_mayAt 15 = .ok (.iload_n 1, 1) := by decide +kernel
theorem dX12_mayAt_16 : decode cX12_mayAt 16 = .ok (.iload 4, 2) := by decide +kernel
theorem dX12_mayAt_18 : decode cX12_mayAt 18 = .ok (.invokevirtual 302, 3) := by decide +kernel
theorem dX12_mayAt_21 : decode cX12_mayAt 21 = .ok (.ifCond .ne 6, 3) := by decide +kernel
theorem dX12_mayAt_24 : decode cX12_mayAt 24 = .ok (.goto 14, 3) := by decide +kernel
theorem dX12_mayAt_27 : decode cX12_mayAt 27 = .ok (.iload_n 3, 1) := by decide +kernel
theorem dX12_mayAt_28 : decode cX12_mayAt 28 = .ok (.iload_n 2, 1) := by decide +kernel
theorem dX12_mayAt_29 : decode cX12_mayAt 29 = .ok (.if_icmp .ne 6, 3) := by decide +kernel
theorem dX12_mayAt_32 : decode cX12_mayAt 32 = .ok (.iload 4, 2) := by decide +kernel
theorem dX12_mayAt_34 : decode cX12_mayAt 34 = .ok (.ireturn, 1) := by decide +kernel
theorem dX12_mayAt_35 : decode cX12_mayAt 35 = .ok (.iinc 3 1, 3) := by decide +kernel
theorem dX12_mayAt_38 : decode cX12_mayAt 38 = .ok (.iinc 4 1, 3) := by decide +kernel
theorem dX12_mayAt_41 : decode cX12_mayAt 41 = .ok (.goto (-36), 3) := by decide +kernel
theorem dX12_mayAt_44 : decode cX12_mayAt 44 = .ok (.bipush (-2), 2) := by decide +kernel
theorem dX12_mayAt_46 : decode cX12_mayAt 46 = .ok (.ireturn, 1) := by decide +kernel
theorem dX12_lay_0 : decode cX12_lay 0 = .ok (.aload_n 0, 1) := by decide +kernel
theorem dX12_lay_1 : decode cX12_lay 1 = .ok (.invokevirtual 176, 3) := by decide +kernel
theorem dX12_lay_4 : decode cX12_lay 4 = .ok (.aload_n 0, 1) := by decide +kernel
theorem dX12_lay_5 : decode cX12_lay 5 = .ok (.iload_n 1, 1) := by decide +kernel
theorem dX12_lay_6 : decode cX12_lay 6 = .ok (.invokevirtual 305, 3) := by decide +kernel
theorem dX12_lay_9 : decode cX12_lay 9 = .ok (.ifCond .ne 9, 3) := by decide +kernel
theorem dX12_lay_12 : decode cX12_lay 12 = .ok (.aload_n 0, 1) := by decide +kernel
theorem dX12_lay_13 : decode cX12_lay 13 = .ok (.iconst 1, 1) := by decide +kernel
theorem dX12_lay_14 : decode cX12_lay 14 = .ok (.invokevirtual 179, 3) := by decide +kernel
theorem dX12_lay_17 : decode cX12_lay 17 = .ok (.ireturn, 1) := by decide +kernel
theorem dX12_lay_18 : decode cX12_lay 18 = .ok (.iload_n 2, 1) := by decide +kernel
theorem dX12_lay_19 : decode cX12_lay 19 = .ok (.tableswitch 79 0 5 #[37, 44, 51, 58, 65, 72], 37) := by decide +kernel
theorem dX12_lay_56 : decode cX12_lay 56 = .ok (.aload_n 0, 1) := by decide +kernel
theorem dX12_lay_57 : decode cX12_lay 57 = .ok (.getfield 38, 3) := by decide +kernel
theorem dX12_lay_60 : decode cX12_lay 60 = .ok (.iload_n 1, 1) := by decide +kernel
theorem dX12_lay_61 : decode cX12_lay 61 = .ok (.iaload, 1) := by decide +kernel
theorem dX12_lay_62 : decode cX12_lay 62 = .ok (.ireturn, 1) := by decide +kernel
theorem dX12_lay_63 : decode cX12_lay 63 = .ok (.aload_n 0, 1) := by decide +kernel
theorem dX12_lay_64 : decode cX12_lay 64 = .ok (.getfield 41, 3) := by decide +kernel
theorem dX12_lay_67 : decode cX12_lay 67 = .ok (.iload_n 1, 1) := by decide +kernel
theorem dX12_lay_68 : decode cX12_lay 68 = .ok (.iaload, 1) := by decide +kernel
theorem dX12_lay_69 : decode cX12_lay 69 = .ok (.ireturn, 1) := by decide +kernel
theorem dX12_lay_70 : decode cX12_lay 70 = .ok (.aload_n 0, 1) := by decide +kernel
theorem dX12_lay_71 : decode cX12_lay 71 = .ok (.getfield 44, 3) := by decide +kernel
theorem dX12_lay_74 : decode cX12_lay 74 = .ok (.iload_n 1, 1) := by decide +kernel
theorem dX12_lay_75 : decode cX12_lay 75 = .ok (.iaload, 1) := by decide +kernel
theorem dX12_lay_76 : decode cX12_lay 76 = .ok (.ireturn, 1) := by decide +kernel
theorem dX12_lay_77 : decode cX12_lay 77 = .ok (.aload_n 0, 1) := by decide +kernel
theorem dX12_lay_78 : decode cX12_lay 78 = .ok (.getfield 47, 3) := by decide +kernel
theorem dX12_lay_81 : decode cX12_lay 81 = .ok (.iload_n 1, 1) := by decide +kernel
theorem dX12_lay_82 : decode cX12_lay 82 = .ok (.iaload, 1) := by decide +kernel
theorem dX12_lay_83 : decode cX12_lay 83 = .ok (.ireturn, 1) := by decide +kernel
theorem dX12_lay_84 : decode cX12_lay 84 = .ok (.aload_n 0, 1) := by decide +kernel
theorem dX12_lay_85 : decode cX12_lay 85 = .ok (.getfield 50, 3) := by decide +kernel
theorem dX12_lay_88 : decode cX12_lay 88 = .ok (.iload_n 1, 1) := by decide +kernel
theorem dX12_lay_89 : decode cX12_lay 89 = .ok (.iaload, 1) := by decide +kernel
theorem dX12_lay_90 : decode cX12_lay 90 = .ok (.ireturn, 1) := by decide +kernel
theorem dX12_lay_91 : decode cX12_lay 91 = .ok (.aload_n 0, 1) := by decide +kernel
theorem dX12_lay_92 : decode cX12_lay 92 = .ok (.getfield 53, 3) := by decide +kernel
theorem dX12_lay_95 : decode cX12_lay 95 = .ok (.iload_n 1, 1) := by decide +kernel
theorem dX12_lay_96 : decode cX12_lay 96 = .ok (.iaload, 1) := by decide +kernel
theorem dX12_lay_97 : decode cX12_lay 97 = .ok (.ireturn, 1) := by decide +kernel
theorem dX12_lay_98 : decode cX12_lay 98 = .ok (.aload_n 0, 1) := by decide +kernel
theorem dX12_lay_99 : decode cX12_lay 99 = .ok (.iconst 1, 1) := by decide +kernel
theorem dX12_lay_100 : decode cX12_lay 100 = .ok (.invokevirtual 179, 3) := by decide +kernel
theorem dX12_lay_103 : decode cX12_lay 103 = .ok (.ireturn, 1) := by decide +kernel
theorem dX12_layOf_0 : decode cX12_layOf 0 = .ok (.aload_n 0, 1) := by decide +kernel
theorem dX12_layOf_1 : decode cX12_layOf 1 = .ok (.invokevirtual 176, 3) := by decide +kernel
theorem dX12_layOf_4 : decode cX12_layOf 4 = .ok (.aload_n 0, 1) := by decide +kernel
theorem dX12_layOf_5 : decode cX12_layOf 5 = .ok (.iload_n 2, 1) := by decide +kernel
theorem dX12_layOf_6 : decode cX12_layOf 6 = .ok (.invokevirtual 308, 3) := by decide +kernel
theorem dX12_layOf_9 : decode cX12_layOf 9 = .ok (.ifCond .eq 19, 3) := by decide +kernel
theorem dX12_layOf_12 : decode cX12_layOf 12 = .ok (.iload_n 1, 1) := by decide +kernel
theorem dX12_layOf_13 : decode cX12_layOf 13 = .ok (.iconst 0, 1) := by decide +kernel
theorem dX12_layOf_14 : decode cX12_layOf 14 = .ok (.aload_n 0, 1) := by decide +kernel
theorem dX12_layOf_15 : decode cX12_layOf 15 = .ok (.getfield 20, 3) := by decide +kernel
theorem dX12_layOf_18 : decode cX12_layOf 18 = .ok (.iconst 4, 1) := by decide +kernel
theorem dX12_layOf_19 : decode cX12_layOf 19 = .ok (.iaload, 1) := by decide +kernel
theorem dX12_layOf_20 : decode cX12_layOf 20 = .ok (.iconst 1, 1) := by decide +kernel
theorem dX12_layOf_21 : decode cX12_layOf 21 = .ok (.isub, 1) := by decide +kernel
theorem dX12_layOf_22 : decode cX12_layOf 22 = .ok (.invokestatic 168, 3) := by decide +kernel
theorem dX12_layOf_25 : decode cX12_layOf 25 = .ok (.ifCond .ne 9, 3) := by decide +kernel
theorem dX12_layOf_28 : decode cX12_layOf 28 = .ok (.aload_n 0, 1) := by decide +kernel
theorem dX12_layOf_29 : decode cX12_layOf 29 = .ok (.iconst 1, 1) := by decide +kernel
theorem dX12_layOf_30 : decode cX12_layOf 30 = .ok (.invokevirtual 179, 3) := by decide +kernel
theorem dX12_layOf_33 : decode cX12_layOf 33 = .ok (.ireturn, 1) := by decide +kernel
theorem dX12_layOf_34 : decode cX12_layOf 34 = .ok (.iload 5, 2) := by decide +kernel
theorem dX12_layOf_36 : decode cX12_layOf 36 = .ok (.iconst 0, 1) := by decide +kernel
theorem dX12_layOf_37 : decode cX12_layOf 37 = .ok (.iconst 3, 1) := by decide +kernel
theorem dX12_layOf_38 : decode cX12_layOf 38 = .ok (.invokestatic 168, 3) := by decide +kernel
theorem dX12_layOf_41 : decode cX12_layOf 41 = .ok (.ifCond .ne 9, 3) := by decide +kernel
theorem dX12_layOf_44 : decode cX12_layOf 44 = .ok (.aload_n 0, 1) := by decide +kernel
theorem dX12_layOf_45 : decode cX12_layOf 45 = .ok (.iconst 2, 1) := by decide +kernel
theorem dX12_layOf_46 : decode cX12_layOf 46 = .ok (.invokevirtual 179, 3) := by decide +kernel
theorem dX12_layOf_49 : decode cX12_layOf 49 = .ok (.ireturn, 1) := by decide +kernel
theorem dX12_layOf_50 : decode cX12_layOf 50 = .ok (.iconst 0, 1) := by decide +kernel
theorem dX12_layOf_51 : decode cX12_layOf 51 = .ok (.istore 6, 2) := by decide +kernel
theorem dX12_layOf_53 : decode cX12_layOf 53 = .ok (.iload 6, 2) := by decide +kernel
theorem dX12_layOf_55 : decode cX12_layOf 55 = .ok (.aload_n 0, 1) := by decide +kernel
theorem dX12_layOf_56 : decode cX12_layOf 56 = .ok (.getfield 205, 3) := by decide +kernel
theorem dX12_layOf_59 : decode cX12_layOf 59 = .ok (.if_icmp .ge 69, 3) := by decide +kernel
theorem dX12_layOf_62 : decode cX12_layOf 62 = .ok (.aload_n 0, 1) := by decide +kernel
theorem dX12_layOf_63 : decode cX12_layOf 63 = .ok (.getfield 38, 3) := by decide +kernel
theorem dX12_layOf_66 : decode cX12_layOf 66 = .ok (.iload 6, 2) := by decide +kernel
theorem dX12_layOf_68 : decode cX12_layOf 68 = .ok (.iaload, 1) := by decide +kernel
theorem dX12_layOf_69 : decode cX12_layOf 69 = .ok (.iload_n 1, 1) := by decide +kernel
theorem dX12_layOf_70 : decode cX12_layOf 70 = .ok (.if_icmp .ne 52, 3) := by decide +kernel
theorem dX12_layOf_73 : decode cX12_layOf 73 = .ok (.aload_n 0, 1) := by decide +kernel
theorem dX12_layOf_74 : decode cX12_layOf 74 = .ok (.getfield 41, 3) := by decide +kernel
theorem dX12_layOf_77 : decode cX12_layOf 77 = .ok (.iload 6, 2) := by decide +kernel
theorem dX12_layOf_79 : decode cX12_layOf 79 = .ok (.iaload, 1) := by decide +kernel
theorem dX12_layOf_80 : decode cX12_layOf 80 = .ok (.iload_n 2, 1) := by decide +kernel
theorem dX12_layOf_81 : decode cX12_layOf 81 = .ok (.if_icmp .ne 41, 3) := by decide +kernel
theorem dX12_layOf_84 : decode cX12_layOf 84 = .ok (.aload_n 0, 1) := by decide +kernel
theorem dX12_layOf_85 : decode cX12_layOf 85 = .ok (.getfield 44, 3) := by decide +kernel
theorem dX12_layOf_88 : decode cX12_layOf 88 = .ok (.iload 6, 2) := by decide +kernel
theorem dX12_layOf_90 : decode cX12_layOf 90 = .ok (.iaload, 1) := by decide +kernel
theorem dX12_layOf_91 : decode cX12_layOf 91 = .ok (.iload_n 3, 1) := by decide +kernel
theorem dX12_layOf_92 : decode cX12_layOf 92 = .ok (.if_icmp .ne 30, 3) := by decide +kernel
theorem dX12_layOf_95 : decode cX12_layOf 95 = .ok (.aload_n 0, 1) := by decide +kernel
theorem dX12_layOf_96 : decode cX12_layOf 96 = .ok (.getfield 47, 3) := by decide +kernel
theorem dX12_layOf_99 : decode cX12_layOf 99 = .ok (.iload 6, 2) := by decide +kernel
theorem dX12_layOf_101 : decode cX12_layOf 101 = .ok (.iaload, 1) := by decide +kernel
theorem dX12_layOf_102 : decode cX12_layOf 102 = .ok (.iload 4, 2) := by decide +kernel
theorem dX12_layOf_104 : decode cX12_layOf 104 = .ok (.if_icmp .ne 18, 3) := by decide +kernel
theorem dX12_layOf_107 : decode cX12_layOf 107 = .ok (.aload_n 0, 1) := by decide +kernel
theorem dX12_layOf_108 : decode cX12_layOf 108 = .ok (.getfield 50, 3) := by decide +kernel
theorem dX12_layOf_111 : decode cX12_layOf 111 = .ok (.iload 6, 2) := by decide +kernel
theorem dX12_layOf_113 : decode cX12_layOf 113 = .ok (.iaload, 1) := by decide +kernel
theorem dX12_layOf_114 : decode cX12_layOf 114 = .ok (.iload 5, 2) := by decide +kernel
theorem dX12_layOf_116 : decode cX12_layOf 116 = .ok (.if_icmp .ne 6, 3) := by decide +kernel
theorem dX12_layOf_119 : decode cX12_layOf 119 = .ok (.iload 6, 2) := by decide +kernel
theorem dX12_layOf_121 : decode cX12_layOf 121 = .ok (.ireturn, 1) := by decide +kernel
theorem dX12_layOf_122 : decode cX12_layOf 122 = .ok (.iinc 6 1, 3) := by decide +kernel
theorem dX12_layOf_125 : decode cX12_layOf 125 = .ok (.goto (-72), 3) := by decide +kernel
theorem dX12_layOf_128 : decode cX12_layOf 128 = .ok (.bipush (-2), 2) := by decide +kernel
theorem dX12_layOf_130 : decode cX12_layOf 130 = .ok (.ireturn, 1) := by decide +kernel
theorem dX12_may_0 : decode cX12_may 0 = .ok (.aload_n 0, 1) := by decide +kernel
theorem dX12_may_1 : decode cX12_may 1 = .ok (.invokevirtual 176, 3) := by decide +kernel
theorem dX12_may_4 : decode cX12_may 4 = .ok (.aload_n 0, 1) := by decide +kernel
theorem dX12_may_5 : decode cX12_may 5 = .ok (.iload_n 1, 1) := by decide +kernel
theorem dX12_may_6 : decode cX12_may 6 = .ok (.invokevirtual 305, 3) := by decide +kernel
theorem dX12_may_9 : decode cX12_may 9 = .ok (.ifCond .eq 23, 3) := by decide +kernel
theorem dX12_may_12 : decode cX12_may 12 = .ok (.aload_n 0, 1) := by decide +kernel
theorem dX12_may_13 : decode cX12_may 13 = .ok (.aload_n 0, 1) := by decide +kernel
theorem dX12_may_14 : decode cX12_may 14 = .ok (.invokevirtual 311, 3) := by decide +kernel
theorem dX12_may_17 : decode cX12_may 17 = .ok (.iload_n 1, 1) := by decide +kernel
theorem dX12_may_18 : decode cX12_may 18 = .ok (.invokevirtual 302, 3) := by decide +kernel
theorem dX12_may_21 : decode cX12_may 21 = .ok (.ifCond .eq 7, 3) := by decide +kernel
theorem dX12_may_24 : decode cX12_may 24 = .ok (.iconst 1, 1) := by decide +kernel
theorem dX12_may_25 : decode cX12_may 25 = .ok (.goto 12, 3) := by decide +kernel
theorem dX12_may_28 : decode cX12_may 28 = .ok (.iconst 0, 1) := by decide +kernel
theorem dX12_may_29 : decode cX12_may 29 = .ok (.goto 8, 3) := by decide +kernel
theorem dX12_may_32 : decode cX12_may 32 = .ok (.aload_n 0, 1) := by decide +kernel
theorem dX12_may_33 : decode cX12_may 33 = .ok (.iconst 1, 1) := by decide +kernel
theorem dX12_may_34 : decode cX12_may 34 = .ok (.invokevirtual 179, 3) := by decide +kernel
theorem dX12_may_37 : decode cX12_may 37 = .ok (.ireturn, 1) := by decide +kernel
theorem dX12_lays_0 : decode cX12_lays 0 = .ok (.aload_n 0, 1) := by decide +kernel
theorem dX12_lays_1 : decode cX12_lays 1 = .ok (.invokevirtual 176, 3) := by decide +kernel
theorem dX12_lays_4 : decode cX12_lays 4 = .ok (.aload_n 0, 1) := by decide +kernel
theorem dX12_lays_5 : decode cX12_lays 5 = .ok (.getfield 185, 3) := by decide +kernel
theorem dX12_lays_8 : decode cX12_lays 8 = .ok (.ifCond .eq 14, 3) := by decide +kernel
theorem dX12_lays_11 : decode cX12_lays 11 = .ok (.aload_n 0, 1) := by decide +kernel
theorem dX12_lays_12 : decode cX12_lays 12 = .ok (.aload_n 0, 1) := by decide +kernel
theorem dX12_lays_13 : decode cX12_lays 13 = .ok (.invokevirtual 311, 3) := by decide +kernel
theorem dX12_lays_16 : decode cX12_lays 16 = .ok (.invokevirtual 314, 3) := by decide +kernel
theorem dX12_lays_19 : decode cX12_lays 19 = .ok (.goto 8, 3) := by decide +kernel
theorem dX12_lays_22 : decode cX12_lays 22 = .ok (.aload_n 0, 1) := by decide +kernel
theorem dX12_lays_23 : decode cX12_lays 23 = .ok (.iconst 1, 1) := by decide +kernel
theorem dX12_lays_24 : decode cX12_lays 24 = .ok (.invokevirtual 179, 3) := by decide +kernel
theorem dX12_lays_27 : decode cX12_lays 27 = .ok (.ireturn, 1) := by decide +kernel
theorem dX12_layAt_0 : decode cX12_layAt 0 = .ok (.aload_n 0, 1) := by decide +kernel
theorem dX12_layAt_1 : decode cX12_layAt 1 = .ok (.invokevirtual 176, 3) := by decide +kernel
theorem dX12_layAt_4 : decode cX12_layAt 4 = .ok (.aload_n 0, 1) := by decide +kernel
theorem dX12_layAt_5 : decode cX12_layAt 5 = .ok (.getfield 185, 3) := by decide +kernel
theorem dX12_layAt_8 : decode cX12_layAt 8 = .ok (.ifCond .eq 19, 3) := by decide +kernel
theorem dX12_layAt_11 : decode cX12_layAt 11 = .ok (.iload_n 1, 1) := by decide +kernel
theorem dX12_layAt_12 : decode cX12_layAt 12 = .ok (.ifCond .lt 15, 3) := by decide +kernel
theorem dX12_layAt_15 : decode cX12_layAt 15 = .ok (.aload_n 0, 1) := by decide +kernel
theorem dX12_layAt_16 : decode cX12_layAt 16 = .ok (.aload_n 0, 1) := by decide +kernel
theorem dX12_layAt_17 : decode cX12_layAt 17 = .ok (.invokevirtual 311, 3) := by decide +kernel
theorem dX12_layAt_20 : decode cX12_layAt 20 = .ok (.iload_n 1, 1) := by decide +kernel
theorem dX12_layAt_21 : decode cX12_layAt 21 = .ok (.invokevirtual 317, 3) := by decide +kernel
theorem dX12_layAt_24 : decode cX12_layAt 24 = .ok (.goto 5, 3) := by decide +kernel
theorem dX12_layAt_27 : decode cX12_layAt 27 = .ok (.bipush (-2), 2) := by decide +kernel
theorem dX12_layAt_29 : decode cX12_layAt 29 = .ok (.istore_n 2, 1) := by decide +kernel
theorem dX12_layAt_30 : decode cX12_layAt 30 = .ok (.iload_n 2, 1) := by decide +kernel
theorem dX12_layAt_31 : decode cX12_layAt 31 = .ok (.bipush (-2), 2) := by decide +kernel
theorem dX12_layAt_33 : decode cX12_layAt 33 = .ok (.if_icmp .ne 11, 3) := by decide +kernel
theorem dX12_layAt_36 : decode cX12_layAt 36 = .ok (.aload_n 0, 1) := by decide +kernel
theorem dX12_layAt_37 : decode cX12_layAt 37 = .ok (.iconst 1, 1) := by decide +kernel
theorem dX12_layAt_38 : decode cX12_layAt 38 = .ok (.invokevirtual 179, 3) := by decide +kernel
theorem dX12_layAt_41 : decode cX12_layAt 41 = .ok (.goto 4, 3) := by decide +kernel
theorem dX12_layAt_44 : decode cX12_layAt 44 = .ok (.iload_n 2, 1) := by decide +kernel
theorem dX12_layAt_45 : decode cX12_layAt 45 = .ok (.ireturn, 1) := by decide +kernel
theorem dX12_halfRound_0 : decode cX12_halfRound 0 = .ok (.aload_n 0, 1) := by decide +kernel
theorem dX12_halfRound_1 : decode cX12_halfRound 1 = .ok (.getfield 20, 3) := by decide +kernel
theorem dX12_halfRound_4 : decode cX12_halfRound 4 = .ok (.bipush 7, 2) := by decide +kernel
theorem dX12_halfRound_6 : decode cX12_halfRound 6 = .ok (.iload_n 1, 1) := by decide +kernel
theorem dX12_halfRound_7 : decode cX12_halfRound 7 = .ok (.iadd, 1) := by decide +kernel
theorem dX12_halfRound_8 : decode cX12_halfRound 8 = .ok (.iaload, 1) := by decide +kernel
theorem dX12_halfRound_9 : decode cX12_halfRound 9 = .ok (.aload_n 0, 1) := by decide +kernel
theorem dX12_halfRound_10 : decode cX12_halfRound 10 = .ok (.getfield 20, 3) := by decide +kernel
theorem dX12_halfRound_13 : decode cX12_halfRound 13 = .ok (.bipush 10, 2) := by decide +kernel
theorem dX12_halfRound_15 : decode cX12_halfRound 15 = .ok (.iload_n 1, 1) := by decide +kernel
theorem dX12_halfRound_16 : decode cX12_halfRound 16 = .ok (.iadd, 1) := by decide +kernel
theorem dX12_halfRound_17 : decode cX12_halfRound 17 = .ok (.iaload, 1) := by decide +kernel
theorem dX12_halfRound_18 : decode cX12_halfRound 18 = .ok (.imul, 1) := by decide +kernel
theorem dX12_halfRound_19 : decode cX12_halfRound 19 = .ok (.istore_n 3, 1) := by decide +kernel
theorem dX12_halfRound_20 : decode cX12_halfRound 20 = .ok (.iconst 0, 1) := by decide +kernel
theorem dX12_halfRound_21 : decode cX12_halfRound 21 = .ok (.istore 4, 2) := by decide +kernel
theorem dX12_halfRound_23 : decode cX12_halfRound 23 = .ok (.iconst 0, 1) := by decide +kernel
theorem dX12_halfRound_24 : decode cX12_halfRound 24 = .ok (.istore 5, 2) := by decide +kernel
theorem dX12_halfRound_26 : decode cX12_halfRound 26 = .ok (.iload 5, 2) := by decide +kernel
theorem dX12_halfRound_28 : decode cX12_halfRound 28 = .ok (.iload_n 3, 1) := by decide +kernel
theorem dX12_halfRound_29 : decode cX12_halfRound 29 = .ok (.if_icmp .ge 55, 3) := by decide +kernel
theorem dX12_halfRound_32 : decode cX12_halfRound 32 = .ok (.iload 4, 2) := by decide +kernel
theorem dX12_halfRound_34 : decode cX12_halfRound 34 = .ok (.iload_n 2, 1) := by decide +kernel
theorem dX12_halfRound_35 : decode cX12_halfRound 35 = .ok (.aload_n 0, 1) := by decide +kernel
theorem dX12_halfRound_36 : decode cX12_halfRound 36 = .ok (.getfield 20, 3) := by decide +kernel
theorem dX12_halfRound_39 : decode cX12_halfRound 39 = .ok (.bipush 13, 2) := by decide +kernel
theorem dX12_halfRound_41 : decode cX12_halfRound 41 = .ok (.iload_n 1, 1) := by decide +kernel
theorem dX12_halfRound_42 : decode cX12_halfRound 42 = .ok (.iadd, 1) := by decide +kernel
theorem dX12_halfRound_43 : decode cX12_halfRound 43 = .ok (.iaload, 1) := by decide +kernel
theorem dX12_halfRound_44 : decode cX12_halfRound 44 = .ok (.iload 5, 2) := by decide +kernel
theorem dX12_halfRound_46 : decode cX12_halfRound 46 = .ok (.iadd, 1) := by decide +kernel
theorem dX12_halfRound_47 : decode cX12_halfRound 47 = .ok (.invokestatic 251, 3) := by decide +kernel
theorem dX12_halfRound_50 : decode cX12_halfRound 50 = .ok (.ifCond .eq 24, 3) := by decide +kernel
theorem dX12_halfRound_53 : decode cX12_halfRound 53 = .ok (.iconst 1, 1) := by decide +kernel
theorem dX12_halfRound_54 : decode cX12_halfRound 54 = .ok (.aload_n 0, 1) := by decide +kernel
theorem dX12_halfRound_55 : decode cX12_halfRound 55 = .ok (.getfield 20, 3) := by decide +kernel
theorem dX12_halfRound_58 : decode cX12_halfRound 58 = .ok (.bipush 13, 2) := by decide +kernel
theorem dX12_halfRound_60 : decode cX12_halfRound 60 = .ok (.iload_n 1, 1) := by decide +kernel
theorem dX12_halfRound_61 : decode cX12_halfRound 61 = .ok (.iadd, 1) := by decide +kernel
theorem dX12_halfRound_62 : decode cX12_halfRound 62 = .ok (.iaload, 1) := by decide +kernel
theorem dX12_halfRound_63 : decode cX12_halfRound 63 = .ok (.iload_n 3, 1) := by decide +kernel
theorem dX12_halfRound_64 : decode cX12_halfRound 64 = .ok (.iadd, 1) := by decide +kernel
theorem dX12_halfRound_65 : decode cX12_halfRound 65 = .ok (.iconst 1, 1) := by decide +kernel
theorem dX12_halfRound_66 : decode cX12_halfRound 66 = .ok (.isub, 1) := by decide +kernel
theorem dX12_halfRound_67 : decode cX12_halfRound 67 = .ok (.iload 5, 2) := by decide +kernel
theorem dX12_halfRound_69 : decode cX12_halfRound 69 = .ok (.isub, 1) := by decide +kernel
theorem dX12_halfRound_70 : decode cX12_halfRound 70 = .ok (.ishl, 1) := by decide +kernel
theorem dX12_halfRound_71 : decode cX12_halfRound 71 = .ok (.goto 4, 3) := by decide +kernel
theorem dX12_halfRound_74 : decode cX12_halfRound 74 = .ok (.iconst 0, 1) := by decide +kernel
theorem dX12_halfRound_75 : decode cX12_halfRound 75 = .ok (.ior, 1) := by decide +kernel
theorem dX12_halfRound_76 : decode cX12_halfRound 76 = .ok (.istore 4, 2) := by decide +kernel
theorem dX12_halfRound_78 : decode cX12_halfRound 78 = .ok (.iinc 5 1, 3) := by decide +kernel
theorem dX12_halfRound_81 : decode cX12_halfRound 81 = .ok (.goto (-55), 3) := by decide +kernel
theorem dX12_halfRound_84 : decode cX12_halfRound 84 = .ok (.iload 4, 2) := by decide +kernel
theorem dX12_halfRound_86 : decode cX12_halfRound 86 = .ok (.ireturn, 1) := by decide +kernel
theorem dX12_acrossOf_0 : decode cX12_acrossOf 0 = .ok (.aload_n 0, 1) := by decide +kernel
theorem dX12_acrossOf_1 : decode cX12_acrossOf 1 = .ok (.aload_n 0, 1) := by decide +kernel
theorem dX12_acrossOf_2 : decode cX12_acrossOf 2 = .ok (.getfield 41, 3) := by decide +kernel
theorem dX12_acrossOf_5 : decode cX12_acrossOf 5 = .ok (.iload_n 1, 1) := by decide +kernel
theorem dX12_acrossOf_6 : decode cX12_acrossOf 6 = .ok (.iaload, 1) := by decide +kernel
theorem dX12_acrossOf_7 : decode cX12_acrossOf 7 = .ok (.aload_n 0, 1) := by decide +kernel
theorem dX12_acrossOf_8 : decode cX12_acrossOf 8 = .ok (.getfield 53, 3) := by decide +kernel
theorem dX12_acrossOf_11 : decode cX12_acrossOf 11 = .ok (.iload_n 1, 1) := by decide +kernel
theorem dX12_acrossOf_12 : decode cX12_acrossOf 12 = .ok (.iaload, 1) := by decide +kernel
theorem dX12_acrossOf_13 : decode cX12_acrossOf 13 = .ok (.invokevirtual 320, 3) := by decide +kernel
theorem dX12_acrossOf_16 : decode cX12_acrossOf 16 = .ok (.istore_n 2, 1) := by decide +kernel
theorem dX12_acrossOf_17 : decode cX12_acrossOf 17 = .ok (.iconst 0, 1) := by decide +kernel
theorem dX12_acrossOf_18 : decode cX12_acrossOf 18 = .ok (.istore_n 3, 1) := by decide +kernel
theorem dX12_acrossOf_19 : decode cX12_acrossOf 19 = .ok (.iload_n 3, 1) := by decide +kernel
theorem dX12_acrossOf_20 : decode cX12_acrossOf 20 = .ok (.aload_n 0, 1) := by decide +kernel
theorem dX12_acrossOf_21 : decode cX12_acrossOf 21 = .ok (.getfield 205, 3) := by decide +kernel
theorem dX12_acrossOf_24 : decode cX12_acrossOf 24 = .ok (.if_icmp .ge 51, 3) := by decide +kernel
theorem dX12_acrossOf_27 : decode cX12_acrossOf 27 = .ok (.aload_n 0, 1) := by decide +kernel
theorem dX12_acrossOf_28 : decode cX12_acrossOf 28 = .ok (.getfield 38, 3) := by decide +kernel
theorem dX12_acrossOf_31 : decode cX12_acrossOf 31 = .ok (.iload_n 3, 1) := by decide +kernel
theorem dX12_acrossOf_32 : decode cX12_acrossOf 32 = .ok (.iaload, 1) := by decide +kernel
theorem dX12_acrossOf_33 : decode cX12_acrossOf 33 = .ok (.aload_n 0, 1) := by decide +kernel
theorem dX12_acrossOf_34 : decode cX12_acrossOf 34 = .ok (.getfield 38, 3) := by decide +kernel
theorem dX12_acrossOf_37 : decode cX12_acrossOf 37 = .ok (.iload_n 1, 1) := by decide +kernel
theorem dX12_acrossOf_38 : decode cX12_acrossOf 38 = .ok (.iaload, 1) := by decide +kernel
theorem dX12_acrossOf_39 : decode cX12_acrossOf 39 = .ok (.if_icmp .ne 30, 3) := by decide +kernel
theorem dX12_acrossOf_42 : decode cX12_acrossOf 42 = .ok (.aload_n 0, 1) := by decide +kernel
theorem dX12_acrossOf_43 : decode cX12_acrossOf 43 = .ok (.getfield 41, 3) := by decide +kernel
theorem dX12_acrossOf_46 : decode cX12_acrossOf 46 = .ok (.iload_n 3, 1) := by decide +kernel
theorem dX12_acrossOf_47 : decode cX12_acrossOf 47 = .ok (.iaload, 1) := by decide +kernel
theorem dX12_acrossOf_48 : decode cX12_acrossOf 48 = .ok (.aload_n 0, 1) := by decide +kernel
theorem dX12_acrossOf_49 : decode cX12_acrossOf 49 = .ok (.getfield 41, 3) := by decide +kernel
theorem dX12_acrossOf_52 : decode cX12_acrossOf 52 = .ok (.iload_n 1, 1) := by decide +kernel
theorem dX12_acrossOf_53 : decode cX12_acrossOf 53 = .ok (.iaload, 1) := by decide +kernel
theorem dX12_acrossOf_54 : decode cX12_acrossOf 54 = .ok (.if_icmp .ne 15, 3) := by decide +kernel
theorem dX12_acrossOf_57 : decode cX12_acrossOf 57 = .ok (.aload_n 0, 1) := by decide +kernel
theorem dX12_acrossOf_58 : decode cX12_acrossOf 58 = .ok (.getfield 53, 3) := by decide +kernel
theorem dX12_acrossOf_61 : decode cX12_acrossOf 61 = .ok (.iload_n 3, 1) := by decide +kernel
theorem dX12_acrossOf_62 : decode cX12_acrossOf 62 = .ok (.iaload, 1) := by decide +kernel
theorem dX12_acrossOf_63 : decode cX12_acrossOf 63 = .ok (.iload_n 2, 1) := by decide +kernel
theorem dX12_acrossOf_64 : decode cX12_acrossOf 64 = .ok (.if_icmp .ne 5, 3) := by decide +kernel
theorem dX12_acrossOf_67 : decode cX12_acrossOf 67 = .ok (.iload_n 3, 1) := by decide +kernel
theorem dX12_acrossOf_68 : decode cX12_acrossOf 68 = .ok (.ireturn, 1) := by decide +kernel
theorem dX12_acrossOf_69 : decode cX12_acrossOf 69 = .ok (.iinc 3 1, 3) := by decide +kernel
theorem dX12_acrossOf_72 : decode cX12_acrossOf 72 = .ok (.goto (-53), 3) := by decide +kernel
theorem dX12_acrossOf_75 : decode cX12_acrossOf 75 = .ok (.bipush (-2), 2) := by decide +kernel
theorem dX12_acrossOf_77 : decode cX12_acrossOf 77 = .ok (.ireturn, 1) := by decide +kernel
theorem dX12_across_0 : decode cX12_across 0 = .ok (.aload_n 0, 1) := by decide +kernel
theorem dX12_across_1 : decode cX12_across 1 = .ok (.invokevirtual 176, 3) := by decide +kernel
theorem dX12_across_4 : decode cX12_across 4 = .ok (.aload_n 0, 1) := by decide +kernel
theorem dX12_across_5 : decode cX12_across 5 = .ok (.iload_n 1, 1) := by decide +kernel
theorem dX12_across_6 : decode cX12_across 6 = .ok (.invokevirtual 305, 3) := by decide +kernel
theorem dX12_across_9 : decode cX12_across 9 = .ok (.ifCond .eq 11, 3) := by decide +kernel
theorem dX12_across_12 : decode cX12_across 12 = .ok (.aload_n 0, 1) := by decide +kernel
theorem dX12_across_13 : decode cX12_across 13 = .ok (.iload_n 1, 1) := by decide +kernel
theorem dX12_across_14 : decode cX12_across 14 = .ok (.invokevirtual 323, 3) := by decide +kernel
theorem dX12_across_17 : decode cX12_across 17 = .ok (.goto 8, 3) := by decide +kernel
theorem dX12_across_20 : decode cX12_across 20 = .ok (.aload_n 0, 1) := by decide +kernel
theorem dX12_across_21 : decode cX12_across 21 = .ok (.iconst 1, 1) := by decide +kernel
theorem dX12_across_22 : decode cX12_across 22 = .ok (.invokevirtual 179, 3) := by decide +kernel
theorem dX12_across_25 : decode cX12_across 25 = .ok (.ireturn, 1) := by decide +kernel
theorem dX12_taken_0 : decode cX12_taken 0 = .ok (.aload_n 0, 1) := by decide +kernel
theorem dX12_taken_1 : decode cX12_taken 1 = .ok (.invokevirtual 176, 3) := by decide +kernel
theorem dX12_taken_4 : decode cX12_taken 4 = .ok (.aload_n 0, 1) := by decide +kernel
theorem dX12_taken_5 : decode cX12_taken 5 = .ok (.getfield 185, 3) := by decide +kernel
theorem dX12_taken_8 : decode cX12_taken 8 = .ok (.ifCond .eq 13, 3) := by decide +kernel
theorem dX12_taken_11 : decode cX12_taken 11 = .ok (.aload_n 0, 1) := by decide +kernel
theorem dX12_taken_12 : decode cX12_taken 12 = .ok (.invokevirtual 311, 3) := by decide +kernel
theorem dX12_taken_15 : decode cX12_taken 15 = .ok (.invokestatic 296, 3) := by decide +kernel
theorem dX12_taken_18 : decode cX12_taken 18 = .ok (.goto 8, 3) := by decide +kernel
theorem dX12_taken_21 : decode cX12_taken 21 = .ok (.aload_n 0, 1) := by decide +kernel
theorem dX12_taken_22 : decode cX12_taken 22 = .ok (.iconst 1, 1) := by decide +kernel
theorem dX12_taken_23 : decode cX12_taken 23 = .ok (.invokevirtual 179, 3) := by decide +kernel
theorem dX12_taken_26 : decode cX12_taken 26 = .ok (.ireturn, 1) := by decide +kernel
theorem dX12_spoils_0 : decode cX12_spoils 0 = .ok (.aload_n 0, 1) := by decide +kernel
theorem dX12_spoils_1 : decode cX12_spoils 1 = .ok (.invokevirtual 176, 3) := by decide +kernel
theorem dX12_spoils_4 : decode cX12_spoils 4 = .ok (.aload_n 0, 1) := by decide +kernel
theorem dX12_spoils_5 : decode cX12_spoils 5 = .ok (.iload_n 1, 1) := by decide +kernel
theorem dX12_spoils_6 : decode cX12_spoils 6 = .ok (.invokevirtual 305, 3) := by decide +kernel
theorem dX12_spoils_9 : decode cX12_spoils 9 = .ok (.ifCond .ne 9, 3) := by decide +kernel
theorem dX12_spoils_12 : decode cX12_spoils 12 = .ok (.aload_n 0, 1) := by decide +kernel
theorem dX12_spoils_13 : decode cX12_spoils 13 = .ok (.iconst 1, 1) := by decide +kernel
theorem dX12_spoils_14 : decode cX12_spoils 14 = .ok (.invokevirtual 179, 3) := by decide +kernel
theorem dX12_spoils_17 : decode cX12_spoils 17 = .ok (.ireturn, 1) := by decide +kernel
theorem dX12_spoils_18 : decode cX12_spoils 18 = .ok (.aload_n 0, 1) := by decide +kernel
theorem dX12_spoils_19 : decode cX12_spoils 19 = .ok (.invokevirtual 311, 3) := by decide +kernel
theorem dX12_spoils_22 : decode cX12_spoils 22 = .ok (.istore_n 2, 1) := by decide +kernel
theorem dX12_spoils_23 : decode cX12_spoils 23 = .ok (.aload_n 0, 1) := by decide +kernel
theorem dX12_spoils_24 : decode cX12_spoils 24 = .ok (.iload_n 2, 1) := by decide +kernel
theorem dX12_spoils_25 : decode cX12_spoils 25 = .ok (.iload_n 1, 1) := by decide +kernel
theorem dX12_spoils_26 : decode cX12_spoils 26 = .ok (.invokevirtual 302, 3) := by decide +kernel
theorem dX12_spoils_29 : decode cX12_spoils 29 = .ok (.ifCond .ne 9, 3) := by decide +kernel
theorem dX12_spoils_32 : decode cX12_spoils 32 = .ok (.aload_n 0, 1) := by decide +kernel
theorem dX12_spoils_33 : decode cX12_spoils 33 = .ok (.iconst 5, 1) := by decide +kernel
theorem dX12_spoils_34 : decode cX12_spoils 34 = .ok (.invokevirtual 179, 3) := by decide +kernel
theorem dX12_spoils_37 : decode cX12_spoils 37 = .ok (.ireturn, 1) := by decide +kernel
theorem dX12_spoils_38 : decode cX12_spoils 38 = .ok (.iconst 0, 1) := by decide +kernel
theorem dX12_spoils_39 : decode cX12_spoils 39 = .ok (.istore_n 3, 1) := by decide +kernel
theorem dX12_spoils_40 : decode cX12_spoils 40 = .ok (.iconst 0, 1) := by decide +kernel
theorem dX12_spoils_41 : decode cX12_spoils 41 = .ok (.istore 4, 2) := by decide +kernel
theorem dX12_spoils_43 : decode cX12_spoils 43 = .ok (.iload 4, 2) := by decide +kernel
theorem dX12_spoils_45 : decode cX12_spoils 45 = .ok (.aload_n 0, 1) := by decide +kernel
theorem dX12_spoils_46 : decode cX12_spoils 46 = .ok (.getfield 205, 3) := by decide +kernel
theorem dX12_spoils_49 : decode cX12_spoils 49 = .ok (.if_icmp .ge 58, 3) := by decide +kernel
theorem dX12_spoils_52 : decode cX12_spoils 52 = .ok (.iload_n 3, 1) := by decide +kernel
theorem dX12_spoils_53 : decode cX12_spoils 53 = .ok (.aload_n 0, 1) := by decide +kernel
theorem dX12_spoils_54 : decode cX12_spoils 54 = .ok (.aload_n 0, 1) := by decide +kernel
theorem dX12_spoils_55 : decode cX12_spoils 55 = .ok (.getfield 20, 3) := by decide +kernel
theorem dX12_spoils_58 : decode cX12_spoils 58 = .ok (.iload_n 2, 1) := by decide +kernel
theorem dX12_spoils_59 : decode cX12_spoils 59 = .ok (.invokestatic 296, 3) := by decide +kernel
theorem dX12_spoils_62 : decode cX12_spoils 62 = .ok (.iload 4, 2) := by decide +kernel
theorem dX12_spoils_64 : decode cX12_spoils 64 = .ok (.invokevirtual 293, 3) := by decide +kernel
theorem dX12_spoils_67 : decode cX12_spoils 67 = .ok (.ifCond .eq 31, 3) := by decide +kernel
theorem dX12_spoils_70 : decode cX12_spoils 70 = .ok (.aload_n 0, 1) := by decide +kernel
theorem dX12_spoils_71 : decode cX12_spoils 71 = .ok (.aload_n 0, 1) := by decide +kernel
theorem dX12_spoils_72 : decode cX12_spoils 72 = .ok (.getfield 20, 3) := by decide +kernel
theorem dX12_spoils_75 : decode cX12_spoils 75 = .ok (.iload_n 2, 1) := by decide +kernel
theorem dX12_spoils_76 : decode cX12_spoils 76 = .ok (.invokestatic 296, 3) := by decide +kernel
theorem dX12_spoils_79 : decode cX12_spoils 79 = .ok (.aload_n 0, 1) := by decide +kernel
theorem dX12_spoils_80 : decode cX12_spoils 80 = .ok (.getfield 53, 3) := by decide +kernel
theorem dX12_spoils_83 : decode cX12_spoils 83 = .ok (.iload_n 1, 1) := by decide +kernel
theorem dX12_spoils_84 : decode cX12_spoils 84 = .ok (.iaload, 1) := by decide +kernel
theorem dX12_spoils_85 : decode cX12_spoils 85 = .ok (.ior, 1) := by decide +kernel
theorem dX12_spoils_86 : decode cX12_spoils 86 = .ok (.iload 4, 2) := by decide +kernel
theorem dX12_spoils_88 : decode cX12_spoils 88 = .ok (.invokevirtual 293, 3) := by decide +kernel
theorem dX12_spoils_91 : decode cX12_spoils 91 = .ok (.ifCond .ne 7, 3) := by decide +kernel
theorem dX12_spoils_94 : decode cX12_spoils 94 = .ok (.iconst 1, 1) := by decide +kernel
theorem dX12_spoils_95 : decode cX12_spoils 95 = .ok (.goto 4, 3) := by decide +kernel
theorem dX12_spoils_98 : decode cX12_spoils 98 = .ok (.iconst 0, 1) := by decide +kernel
theorem dX12_spoils_99 : decode cX12_spoils 99 = .ok (.iadd, 1) := by decide +kernel
theorem dX12_spoils_100 : decode cX12_spoils 100 = .ok (.istore_n 3, 1) := by decide +kernel
theorem dX12_spoils_101 : decode cX12_spoils 101 = .ok (.iinc 4 1, 3) := by decide +kernel
theorem dX12_spoils_104 : decode cX12_spoils 104 = .ok (.goto (-61), 3) := by decide +kernel
theorem dX12_spoils_107 : decode cX12_spoils 107 = .ok (.iload_n 3, 1) := by decide +kernel
theorem dX12_spoils_108 : decode cX12_spoils 108 = .ok (.ireturn, 1) := by decide +kernel
theorem dX12_open_0 : decode cX12_open 0 = .ok (.aload_n 0, 1) := by decide +kernel
theorem dX12_open_1 : decode cX12_open 1 = .ok (.invokevirtual 176, 3) := by decide +kernel
theorem dX12_open_4 : decode cX12_open 4 = .ok (.aload_n 0, 1) := by decide +kernel
theorem dX12_open_5 : decode cX12_open 5 = .ok (.getfield 185, 3) := by decide +kernel
theorem dX12_open_8 : decode cX12_open 8 = .ok (.ifCond .eq 19, 3) := by decide +kernel
theorem dX12_open_11 : decode cX12_open 11 = .ok (.iload_n 1, 1) := by decide +kernel
theorem dX12_open_12 : decode cX12_open 12 = .ok (.iconst 0, 1) := by decide +kernel
theorem dX12_open_13 : decode cX12_open 13 = .ok (.aload_n 0, 1) := by decide +kernel
theorem dX12_open_14 : decode cX12_open 14 = .ok (.getfield 20, 3) := by decide +kernel
theorem dX12_open_17 : decode cX12_open 17 = .ok (.iconst 5, 1) := by decide +kernel
theorem dX12_open_18 : decode cX12_open 18 = .ok (.iaload, 1) := by decide +kernel
theorem dX12_open_19 : decode cX12_open 19 = .ok (.iconst 1, 1) := by decide +kernel
theorem dX12_open_20 : decode cX12_open 20 = .ok (.isub, 1) := by decide +kernel
theorem dX12_open_21 : decode cX12_open 21 = .ok (.invokestatic 168, 3) := by decide +kernel
theorem dX12_open_24 : decode cX12_open 24 = .ok (.ifCond .ne 9, 3) := by decide +kernel
theorem dX12_open_27 : decode cX12_open 27 = .ok (.aload_n 0, 1) := by decide +kernel
theorem dX12_open_28 : decode cX12_open 28 = .ok (.iconst 1, 1) := by decide +kernel
theorem dX12_open_29 : decode cX12_open 29 = .ok (.invokevirtual 179, 3) := by decide +kernel
theorem dX12_open_32 : decode cX12_open 32 = .ok (.ireturn, 1) := by decide +kernel
theorem dX12_open_33 : decode cX12_open 33 = .ok (.iconst 0, 1) := by decide +kernel
theorem dX12_open_34 : decode cX12_open 34 = .ok (.istore_n 2, 1) := by decide +kernel
theorem dX12_open_35 : decode cX12_open 35 = .ok (.iconst 0, 1) := by decide +kernel
theorem dX12_open_36 : decode cX12_open 36 = .ok (.istore_n 3, 1) := by decide +kernel
theorem dX12_open_37 : decode cX12_open 37 = .ok (.iload_n 3, 1) := by decide +kernel
theorem dX12_open_38 : decode cX12_open 38 = .ok (.aload_n 0, 1) := by decide +kernel
theorem dX12_open_39 : decode cX12_open 39 = .ok (.getfield 205, 3) := by decide +kernel
theorem dX12_open_42 : decode cX12_open 42 = .ok (.if_icmp .ge 49, 3) := by decide +kernel
theorem dX12_open_45 : decode cX12_open 45 = .ok (.iload_n 2, 1) := by decide +kernel
theorem dX12_open_46 : decode cX12_open 46 = .ok (.aload_n 0, 1) := by decide +kernel
theorem dX12_open_47 : decode cX12_open 47 = .ok (.getfield 53, 3) := by decide +kernel
theorem dX12_open_50 : decode cX12_open 50 = .ok (.iload_n 3, 1) := by decide +kernel
theorem dX12_open_51 : decode cX12_open 51 = .ok (.iaload, 1) := by decide +kernel
theorem dX12_open_52 : decode cX12_open 52 = .ok (.iload_n 1, 1) := by decide +kernel
theorem dX12_open_53 : decode cX12_open 53 = .ok (.invokestatic 251, 3) := by decide +kernel
theorem dX12_open_56 : decode cX12_open 56 = .ok (.ifCond .eq 26, 3) := by decide +kernel
theorem dX12_open_59 : decode cX12_open 59 = .ok (.aload_n 0, 1) := by decide +kernel
theorem dX12_open_60 : decode cX12_open 60 = .ok (.aload_n 0, 1) := by decide +kernel
theorem dX12_open_61 : decode cX12_open 61 = .ok (.getfield 20, 3) := by decide +kernel
theorem dX12_open_64 : decode cX12_open 64 = .ok (.aload_n 0, 1) := by decide +kernel
theorem dX12_open_65 : decode cX12_open 65 = .ok (.invokevirtual 311, 3) := by decide +kernel
theorem dX12_open_68 : decode cX12_open 68 = .ok (.invokestatic 296, 3) := by decide +kernel
theorem dX12_open_71 : decode cX12_open 71 = .ok (.iload_n 3, 1) := by decide +kernel
theorem dX12_open_72 : decode cX12_open 72 = .ok (.invokevirtual 293, 3) := by decide +kernel
theorem dX12_open_75 : decode cX12_open 75 = .ok (.ifCond .eq 7, 3) := by decide +kernel
theorem dX12_open_78 : decode cX12_open 78 = .ok (.iconst 1, 1) := by decide +kernel
theorem dX12_open_79 : decode cX12_open 79 = .ok (.goto 4, 3) := by decide +kernel
theorem dX12_open_82 : decode cX12_open 82 = .ok (.iconst 0, 1) := by decide +kernel
theorem dX12_open_83 : decode cX12_open 83 = .ok (.iadd, 1) := by decide +kernel
theorem dX12_open_84 : decode cX12_open 84 = .ok (.istore_n 2, 1) := by decide +kernel
theorem dX12_open_85 : decode cX12_open 85 = .ok (.iinc 3 1, 3) := by decide +kernel
theorem dX12_open_88 : decode cX12_open 88 = .ok (.goto (-51), 3) := by decide +kernel
theorem dX12_open_91 : decode cX12_open 91 = .ok (.iload_n 2, 1) := by decide +kernel
theorem dX12_open_92 : decode cX12_open 92 = .ok (.ireturn, 1) := by decide +kernel
theorem dX12_dead_0 : decode cX12_dead 0 = .ok (.aload_n 0, 1) := by decide +kernel
theorem dX12_dead_1 : decode cX12_dead 1 = .ok (.invokevirtual 176, 3) := by decide +kernel
theorem dX12_dead_4 : decode cX12_dead 4 = .ok (.aload_n 0, 1) := by decide +kernel
theorem dX12_dead_5 : decode cX12_dead 5 = .ok (.getfield 185, 3) := by decide +kernel
theorem dX12_dead_8 : decode cX12_dead 8 = .ok (.ifCond .ne 9, 3) := by decide +kernel
theorem dX12_dead_11 : decode cX12_dead 11 = .ok (.aload_n 0, 1) := by decide +kernel
theorem dX12_dead_12 : decode cX12_dead 12 = .ok (.iconst 1, 1) := by decide +kernel
theorem dX12_dead_13 : decode cX12_dead 13 = .ok (.invokevirtual 179, 3) := by decide +kernel
theorem dX12_dead_16 : decode cX12_dead 16 = .ok (.ireturn, 1) := by decide +kernel
theorem dX12_dead_17 : decode cX12_dead 17 = .ok (.aload_n 0, 1) := by decide +kernel
theorem dX12_dead_18 : decode cX12_dead 18 = .ok (.invokevirtual 311, 3) := by decide +kernel
theorem dX12_dead_21 : decode cX12_dead 21 = .ok (.invokestatic 296, 3) := by decide +kernel
theorem dX12_dead_24 : decode cX12_dead 24 = .ok (.istore_n 1, 1) := by decide +kernel
theorem dX12_dead_25 : decode cX12_dead 25 = .ok (.iconst 1, 1) := by decide +kernel
theorem dX12_dead_26 : decode cX12_dead 26 = .ok (.aload_n 0, 1) := by decide +kernel
theorem dX12_dead_27 : decode cX12_dead 27 = .ok (.getfield 20, 3) := by decide +kernel
theorem dX12_dead_30 : decode cX12_dead 30 = .ok (.iconst 5, 1) := by decide +kernel
theorem dX12_dead_31 : decode cX12_dead 31 = .ok (.iaload, 1) := by decide +kernel
theorem dX12_dead_32 : decode cX12_dead 32 = .ok (.ishl, 1) := by decide +kernel
theorem dX12_dead_33 : decode cX12_dead 33 = .ok (.iconst 1, 1) := by decide +kernel
theorem dX12_dead_34 : decode cX12_dead 34 = .ok (.isub, 1) := by decide +kernel
theorem dX12_dead_35 : decode cX12_dead 35 = .ok (.iload_n 1, 1) := by decide +kernel
theorem dX12_dead_36 : decode cX12_dead 36 = .ok (.iconst (-1), 1) := by decide +kernel
theorem dX12_dead_37 : decode cX12_dead 37 = .ok (.ixor, 1) := by decide +kernel
theorem dX12_dead_38 : decode cX12_dead 38 = .ok (.iand, 1) := by decide +kernel
theorem dX12_dead_39 : decode cX12_dead 39 = .ok (.aload_n 0, 1) := by decide +kernel
theorem dX12_dead_40 : decode cX12_dead 40 = .ok (.getfield 20, 3) := by decide +kernel
theorem dX12_dead_43 : decode cX12_dead 43 = .ok (.bipush 16, 2) := by decide +kernel
theorem dX12_dead_45 : decode cX12_dead 45 = .ok (.iaload, 1) := by decide +kernel
theorem dX12_dead_46 : decode cX12_dead 46 = .ok (.iconst (-1), 1) := by decide +kernel
theorem dX12_dead_47 : decode cX12_dead 47 = .ok (.ixor, 1) := by decide +kernel
theorem dX12_dead_48 : decode cX12_dead 48 = .ok (.iand, 1) := by decide +kernel
theorem dX12_dead_49 : decode cX12_dead 49 = .ok (.istore_n 2, 1) := by decide +kernel
theorem dX12_dead_50 : decode cX12_dead 50 = .ok (.iconst 0, 1) := by decide +kernel
theorem dX12_dead_51 : decode cX12_dead 51 = .ok (.istore_n 3, 1) := by decide +kernel
theorem dX12_dead_52 : decode cX12_dead 52 = .ok (.iload_n 3, 1) := by decide +kernel
theorem dX12_dead_53 : decode cX12_dead 53 = .ok (.aload_n 0, 1) := by decide +kernel
theorem dX12_dead_54 : decode cX12_dead 54 = .ok (.getfield 205, 3) := by decide +kernel
theorem dX12_dead_57 : decode cX12_dead 57 = .ok (.if_icmp .ge 33, 3) := by decide +kernel
theorem dX12_dead_60 : decode cX12_dead 60 = .ok (.aload_n 0, 1) := by decide +kernel
theorem dX12_dead_61 : decode cX12_dead 61 = .ok (.aload_n 0, 1) := by decide +kernel
theorem dX12_dead_62 : decode cX12_dead 62 = .ok (.getfield 20, 3) := by decide +kernel
theorem dX12_dead_65 : decode cX12_dead 65 = .ok (.iload_n 1, 1) := by decide +kernel
theorem dX12_dead_66 : decode cX12_dead 66 = .ok (.iload_n 3, 1) := by decide +kernel
theorem dX12_dead_67 : decode cX12_dead 67 = .ok (.invokevirtual 293, 3) := by decide +kernel
theorem dX12_dead_70 : decode cX12_dead 70 = .ok (.ifCond .eq 14, 3) := by decide +kernel
theorem dX12_dead_73 : decode cX12_dead 73 = .ok (.iload_n 2, 1) := by decide +kernel
theorem dX12_dead_74 : decode cX12_dead 74 = .ok (.aload_n 0, 1) := by decide +kernel
theorem dX12_dead_75 : decode cX12_dead 75 = .ok (.getfield 53, 3) := by decide +kernel
theorem dX12_dead_78 : decode cX12_dead 78 = .ok (.iload_n 3, 1) := by decide +kernel
theorem dX12_dead_79 : decode cX12_dead 79 = .ok (.iaload, 1) := by decide +kernel
theorem dX12_dead_80 : decode cX12_dead 80 = .ok (.iconst (-1), 1) := by decide +kernel
theorem dX12_dead_81 : decode cX12_dead 81 = .ok (.ixor, 1) := by decide +kernel
theorem dX12_dead_82 : decode cX12_dead 82 = .ok (.iand, 1) := by decide +kernel
theorem dX12_dead_83 : decode cX12_dead 83 = .ok (.istore_n 2, 1) := by decide +kernel
theorem dX12_dead_84 : decode cX12_dead 84 = .ok (.iinc 3 1, 3) := by decide +kernel
theorem dX12_dead_87 : decode cX12_dead 87 = .ok (.goto (-35), 3) := by decide +kernel
theorem dX12_dead_90 : decode cX12_dead 90 = .ok (.iload_n 2, 1) := by decide +kernel
theorem dX12_dead_91 : decode cX12_dead 91 = .ok (.ireturn, 1) := by decide +kernel
theorem dX12_forget_0 : decode cX12_forget 0 = .ok (.iconst 0, 1) := by decide +kernel
theorem dX12_forget_1 : decode cX12_forget 1 = .ok (.istore_n 1, 1) := by decide +kernel
theorem dX12_forget_2 : decode cX12_forget 2 = .ok (.iload_n 1, 1) := by decide +kernel
theorem dX12_forget_3 : decode cX12_forget 3 = .ok (.ldc 59, 2) := by decide +kernel
theorem dX12_forget_5 : decode cX12_forget 5 = .ok (.if_icmp .ge 53, 3) := by decide +kernel
theorem dX12_forget_8 : decode cX12_forget 8 = .ok (.aload_n 0, 1) := by decide +kernel
theorem dX12_forget_9 : decode cX12_forget 9 = .ok (.getfield 60, 3) := by decide +kernel
theorem dX12_forget_12 : decode cX12_forget 12 = .ok (.iload_n 1, 1) := by decide +kernel
theorem dX12_forget_13 : decode cX12_forget 13 = .ok (.iconst (-1), 1) := by decide +kernel
theorem dX12_forget_14 : decode cX12_forget 14 = .ok (.iastore, 1) := by decide +kernel
theorem dX12_forget_15 : decode cX12_forget 15 = .ok (.aload_n 0, 1) := by decide +kernel
theorem dX12_forget_16 : decode cX12_forget 16 = .ok (.getfield 63, 3) := by decide +kernel
theorem dX12_forget_19 : decode cX12_forget 19 = .ok (.iload_n 1, 1) := by decide +kernel
theorem dX12_forget_20 : decode cX12_forget 20 = .ok (.iconst (-1), 1) := by decide +kernel
theorem dX12_forget_21 : decode cX12_forget 21 = .ok (.iastore, 1) := by decide +kernel
theorem dX12_forget_22 : decode cX12_forget 22 = .ok (.aload_n 0, 1) := by decide +kernel
theorem dX12_forget_23 : decode cX12_forget 23 = .ok (.getfield 66, 3) := by decide +kernel
theorem dX12_forget_26 : decode cX12_forget 26 = .ok (.iload_n 1, 1) := by decide +kernel
theorem dX12_forget_27 : decode cX12_forget 27 = .ok (.iconst (-1), 1) := by decide +kernel
theorem dX12_forget_28 : decode cX12_forget 28 = .ok (.iastore, 1) := by decide +kernel
theorem dX12_forget_29 : decode cX12_forget 29 = .ok (.aload_n 0, 1) := by decide +kernel
theorem dX12_forget_30 : decode cX12_forget 30 = .ok (.getfield 69, 3) := by decide +kernel
theorem dX12_forget_33 : decode cX12_forget 33 = .ok (.iload_n 1, 1) := by decide +kernel
theorem dX12_forget_34 : decode cX12_forget 34 = .ok (.iconst (-1), 1) := by decide +kernel
theorem dX12_forget_35 : decode cX12_forget 35 = .ok (.iastore, 1) := by decide +kernel
theorem dX12_forget_36 : decode cX12_forget 36 = .ok (.aload_n 0, 1) := by decide +kernel
theorem dX12_forget_37 : decode cX12_forget 37 = .ok (.getfield 72, 3) := by decide +kernel
theorem dX12_forget_40 : decode cX12_forget 40 = .ok (.iload_n 1, 1) := by decide +kernel
theorem dX12_forget_41 : decode cX12_forget 41 = .ok (.iconst (-1), 1) := by decide +kernel
theorem dX12_forget_42 : decode cX12_forget 42 = .ok (.iastore, 1) := by decide +kernel
theorem dX12_forget_43 : decode cX12_forget 43 = .ok (.aload_n 0, 1) := by decide +kernel
theorem dX12_forget_44 : decode cX12_forget 44 = .ok (.getfield 78, 3) := by decide +kernel
theorem dX12_forget_47 : decode cX12_forget 47 = .ok (.iload_n 1, 1) := by decide +kernel
theorem dX12_forget_48 : decode cX12_forget 48 = .ok (.ldc2_w 326, 3) := by decide +kernel
theorem dX12_forget_51 : decode cX12_forget 51 = .ok (.lastore, 1) := by decide +kernel
theorem dX12_forget_52 : decode cX12_forget 52 = .ok (.iinc 1 1, 3) := by decide +kernel
theorem dX12_forget_55 : decode cX12_forget 55 = .ok (.goto (-53), 3) := by decide +kernel
theorem dX12_forget_58 : decode cX12_forget 58 = .ok (.return_, 1) := by decide +kernel
theorem dX12_isOver_0 : decode cX12_isOver 0 = .ok (.aload_n 0, 1) := by decide +kernel
theorem dX12_isOver_1 : decode cX12_isOver 1 = .ok (.iload_n 1, 1) := by decide +kernel
theorem dX12_isOver_2 : decode cX12_isOver 2 = .ok (.iconst 0, 1) := by decide +kernel
theorem dX12_isOver_3 : decode cX12_isOver 3 = .ok (.invokevirtual 317, 3) := by decide +kernel
theorem dX12_isOver_6 : decode cX12_isOver 6 = .ok (.bipush (-2), 2) := by decide +kernel
theorem dX12_isOver_8 : decode cX12_isOver 8 = .ok (.if_icmp .ne 7, 3) := by decide +kernel
theorem dX12_isOver_11 : decode cX12_isOver 11 = .ok (.iconst 1, 1) := by decide +kernel
theorem dX12_isOver_12 : decode cX12_isOver 12 = .ok (.goto 4, 3) := by decide +kernel
theorem dX12_isOver_15 : decode cX12_isOver 15 = .ok (.iconst 0, 1) := by decide +kernel
theorem dX12_isOver_16 : decode cX12_isOver 16 = .ok (.ireturn, 1) := by decide +kernel
theorem dX12_hasIt_0 : decode cX12_hasIt 0 = .ok (.aload_n 0, 1) := by decide +kernel
theorem dX12_hasIt_1 : decode cX12_hasIt 1 = .ok (.getfield 60, 3) := by decide +kernel
theorem dX12_hasIt_4 : decode cX12_hasIt 4 = .ok (.iload_n 1, 1) := by decide +kernel
theorem dX12_hasIt_5 : decode cX12_hasIt 5 = .ok (.iaload, 1) := by decide +kernel
theorem dX12_hasIt_6 : decode cX12_hasIt 6 = .ok (.ifCond .ge 90, 3) := by decide +kernel
theorem dX12_hasIt_9 : decode cX12_hasIt 9 = .ok (.aload_n 0, 1) := by decide +kernel
theorem dX12_hasIt_10 : decode cX12_hasIt 10 = .ok (.iload_n 1, 1) := by decide +kernel
theorem dX12_hasIt_11 : decode cX12_hasIt 11 = .ok (.invokevirtual 328, 3) := by decide +kernel
theorem dX12_hasIt_14 : decode cX12_hasIt 14 = .ok (.ifCond .eq 17, 3) := by decide +kernel
theorem dX12_hasIt_17 : decode cX12_hasIt 17 = .ok (.aload_n 0, 1) := by decide +kernel
theorem dX12_hasIt_18 : decode cX12_hasIt 18 = .ok (.getfield 20, 3) := by decide +kernel
theorem dX12_hasIt_21 : decode cX12_hasIt 21 = .ok (.iconst 1, 1) := by decide +kernel
theorem dX12_hasIt_22 : decode cX12_hasIt 22 = .ok (.iaload, 1) := by decide +kernel
theorem dX12_hasIt_23 : decode cX12_hasIt 23 = .ok (.iconst 1, 1) := by decide +kernel
theorem dX12_hasIt_24 : decode cX12_hasIt 24 = .ok (.if_icmp .ne 7, 3) := by decide +kernel
theorem dX12_hasIt_27 : decode cX12_hasIt 27 = .ok (.iconst 1, 1) := by decide +kernel
theorem dX12_hasIt_28 : decode cX12_hasIt 28 = .ok (.goto 4, 3) := by decide +kernel
theorem dX12_hasIt_31 : decode cX12_hasIt 31 = .ok (.iconst 0, 1) := by decide +kernel
theorem dX12_hasIt_32 : decode cX12_hasIt 32 = .ok (.istore_n 2, 1) := by decide +kernel
theorem dX12_hasIt_33 : decode cX12_hasIt 33 = .ok (.iconst 0, 1) := by decide +kernel
theorem dX12_hasIt_34 : decode cX12_hasIt 34 = .ok (.istore_n 3, 1) := by decide +kernel
theorem dX12_hasIt_35 : decode cX12_hasIt 35 = .ok (.iload_n 3, 1) := by decide +kernel
theorem dX12_hasIt_36 : decode cX12_hasIt 36 = .ok (.aload_n 0, 1) := by decide +kernel
theorem dX12_hasIt_37 : decode cX12_hasIt 37 = .ok (.getfield 205, 3) := by decide +kernel
theorem dX12_hasIt_40 : decode cX12_hasIt 40 = .ok (.if_icmp .ge 41, 3) := by decide +kernel
theorem dX12_hasIt_43 : decode cX12_hasIt 43 = .ok (.iload_n 2, 1) := by decide +kernel
theorem dX12_hasIt_44 : decode cX12_hasIt 44 = .ok (.ifCond .ne 37, 3) := by decide +kernel
theorem dX12_hasIt_47 : decode cX12_hasIt 47 = .ok (.aload_n 0, 1) := by decide +kernel
theorem dX12_hasIt_48 : decode cX12_hasIt 48 = .ok (.iload_n 1, 1) := by decide +kernel
theorem dX12_hasIt_49 : decode cX12_hasIt 49 = .ok (.iload_n 3, 1) := by decide +kernel
theorem dX12_hasIt_50 : decode cX12_hasIt 50 = .ok (.invokevirtual 302, 3) := by decide +kernel
theorem dX12_hasIt_53 : decode cX12_hasIt 53 = .ok (.ifCond .eq 20, 3) := by decide +kernel
theorem dX12_hasIt_56 : decode cX12_hasIt 56 = .ok (.aload_n 0, 1) := by decide +kernel
theorem dX12_hasIt_57 : decode cX12_hasIt 57 = .ok (.aload_n 0, 1) := by decide +kernel
theorem dX12_hasIt_58 : decode cX12_hasIt 58 = .ok (.iload_n 1, 1) := by decide +kernel
theorem dX12_hasIt_59 : decode cX12_hasIt 59 = .ok (.iload_n 3, 1) := by decide +kernel
theorem dX12_hasIt_60 : decode cX12_hasIt 60 = .ok (.invokevirtual 331, 3) := by decide +kernel
theorem dX12_hasIt_63 : decode cX12_hasIt 63 = .ok (.invokevirtual 334, 3) := by decide +kernel
theorem dX12_hasIt_66 : decode cX12_hasIt 66 = .ok (.ifCond .ne 7, 3) := by decide +kernel
theorem dX12_hasIt_69 : decode cX12_hasIt 69 = .ok (.iconst 1, 1) := by decide +kernel
theorem dX12_hasIt_70 : decode cX12_hasIt 70 = .ok (.goto 4, 3) := by decide +kernel
theorem dX12_hasIt_73 : decode cX12_hasIt 73 = .ok (.iconst 0, 1) := by decide +kernel
theorem dX12_hasIt_74 : decode cX12_hasIt 74 = .ok (.istore_n 2, 1) := by decide +kernel
theorem dX12_hasIt_75 : decode cX12_hasIt 75 = .ok (.iinc 3 1, 3) := by decide +kernel
theorem dX12_hasIt_78 : decode cX12_hasIt 78 = .ok (.goto (-43), 3) := by decide +kernel
theorem dX12_hasIt_81 : decode cX12_hasIt 81 = .ok (.aload_n 0, 1) := by decide +kernel
theorem dX12_hasIt_82 : decode cX12_hasIt 82 = .ok (.getfield 60, 3) := by decide +kernel
theorem dX12_hasIt_85 : decode cX12_hasIt 85 = .ok (.iload_n 1, 1) := by decide +kernel
theorem dX12_hasIt_86 : decode cX12_hasIt 86 = .ok (.iload_n 2, 1) := by decide +kernel
theorem dX12_hasIt_87 : decode cX12_hasIt 87 = .ok (.ifCond .eq 7, 3) := by decide +kernel
theorem dX12_hasIt_90 : decode cX12_hasIt 90 = .ok (.iconst 1, 1) := by decide +kernel
theorem dX12_hasIt_91 : decode cX12_hasIt 91 = .ok (.goto 4, 3) := by decide +kernel
theorem dX12_hasIt_94 : decode cX12_hasIt 94 = .ok (.iconst 0, 1) := by decide +kernel
theorem dX12_hasIt_95 : decode cX12_hasIt 95 = .ok (.iastore, 1) := by decide +kernel
theorem dX12_hasIt_96 : decode cX12_hasIt 96 = .ok (.aload_n 0, 1) := by decide +kernel
theorem dX12_hasIt_97 : decode cX12_hasIt 97 = .ok (.getfield 60, 3) := by decide +kernel
theorem dX12_hasIt_100 : decode cX12_hasIt 100 = .ok (.iload_n 1, 1) := by decide +kernel
theorem dX12_hasIt_101 : decode cX12_hasIt 101 = .ok (.iaload, 1) := by decide +kernel
theorem dX12_hasIt_102 : decode cX12_hasIt 102 = .ok (.iconst 1, 1) := by decide +kernel
theorem dX12_hasIt_103 : decode cX12_hasIt 103 = .ok (.if_icmp .ne 7, 3) := by decide +kernel
theorem dX12_hasIt_106 : decode cX12_hasIt 106 = .ok (.iconst 1, 1) := by decide +kernel
theorem dX12_hasIt_107 : decode cX12_hasIt 107 = .ok (.goto 4, 3) := by decide +kernel
theorem dX12_hasIt_110 : decode cX12_hasIt 110 = .ok (.iconst 0, 1) := by decide +kernel
theorem dX12_hasIt_111 : decode cX12_hasIt 111 = .ok (.ireturn, 1) := by decide +kernel
theorem dX12_soonestFrom_0 : decode cX12_soonestFrom 0 = .ok (.aload_n 0, 1) := by decide +kernel
theorem dX12_soonestFrom_1 : decode cX12_soonestFrom 1 = .ok (.getfield 63, 3) := by decide +kernel
theorem dX12_soonestFrom_4 : decode cX12_soonestFrom 4 = .ok (.iload_n 1, 1) := by decide +kernel
theorem dX12_soonestFrom_5 : decode cX12_soonestFrom 5 = .ok (.iaload, 1) := by decide +kernel
theorem dX12_soonestFrom_6 : decode cX12_soonestFrom 6 = .ok (.ifCond .lt 10, 3) := by decide +kernel
theorem dX12_soonestFrom_9 : decode cX12_soonestFrom 9 = .ok (.aload_n 0, 1) := by decide +kernel
theorem dX12_soonestFrom_10 : decode cX12_soonestFrom 10 = .ok (.getfield 63, 3) := by decide +kernel
theorem dX12_soonestFrom_13 : decode cX12_soonestFrom 13 = .ok (.iload_n 1, 1) := by decide +kernel
theorem dX12_soonestFrom_14 : decode cX12_soonestFrom 14 = .ok (.iaload, 1) := by decide +kernel
theorem dX12_soonestFrom_15 : decode cX12_soonestFrom 15 = .ok (.ireturn, 1) := by decide +kernel
theorem dX12_soonestFrom_16 : decode cX12_soonestFrom 16 = .ok (.aload_n 0, 1) := by decide +kernel
theorem dX12_soonestFrom_17 : decode cX12_soonestFrom 17 = .ok (.iload_n 1, 1) := by decide +kernel
theorem dX12_soonestFrom_18 : decode cX12_soonestFrom 18 = .ok (.invokevirtual 334, 3) := by decide +kernel
theorem dX12_soonestFrom_21 : decode cX12_soonestFrom 21 = .ok (.istore_n 2, 1) := by decide +kernel
theorem dX12_soonestFrom_22 : decode cX12_soonestFrom 22 = .ok (.iconst (-1), 1) := by decide +kernel
theorem dX12_soonestFrom_23 : decode cX12_soonestFrom 23 = .ok (.istore_n 3, 1) := by decide +kernel
theorem dX12_soonestFrom_24 : decode cX12_soonestFrom 24 = .ok (.iconst 0, 1) := by decide +kernel
theorem dX12_soonestFrom_25 : decode cX12_soonestFrom 25 = .ok (.istore 4, 2) := by decide +kernel
theorem dX12_soonestFrom_27 : decode cX12_soonestFrom 27 = .ok (.iload 4, 2) := by decide +kernel
theorem dX12_soonestFrom_29 : decode cX12_soonestFrom 29 = .ok (.aload_n 0, 1) := by decide +kernel
theorem dX12_soonestFrom_30 : decode cX12_soonestFrom 30 = .ok (.getfield 205, 3) := by decide +kernel
theorem dX12_soonestFrom_33 : decode cX12_soonestFrom 33 = .ok (.if_icmp .ge 85, 3) := by decide +kernel
theorem dX12_soonestFrom_36 : decode cX12_soonestFrom 36 = .ok (.aload_n 0, 1) := by decide +kernel
theorem dX12_soonestFrom_37 : decode cX12_soonestFrom 37 = .ok (.iload_n 1, 1) := by decide +kernel
theorem dX12_soonestFrom_38 : decode cX12_soonestFrom 38 = .ok (.iload 4, 2) := by decide +kernel
theorem dX12_soonestFrom_40 : decode cX12_soonestFrom 40 = .ok (.invokevirtual 302, 3) := by decide +kernel
theorem dX12_soonestFrom_43 : decode cX12_soonestFrom 43 = .ok (.ifCond .eq 69, 3) := by decide +kernel
theorem dX12_soonestFrom_46 : decode cX12_soonestFrom 46 = .ok (.iload_n 2, 1) := by decide +kernel
theorem dX12_soonestFrom_47 : decode cX12_soonestFrom 47 = .ok (.ifCond .eq 20, 3) := by decide +kernel
theorem dX12_soonestFrom_50 : decode cX12_soonestFrom 50 = .ok (.aload_n 0, 1) := by decide +kernel
theorem dX12_soonestFrom_51 : decode cX12_soonestFrom 51 = .ok (.aload_n 0, 1) := by decide +kernel
theorem dX12_soonestFrom_52 : decode cX12_soonestFrom 52 = .ok (.iload_n 1, 1) := by decide +kernel
theorem dX12_soonestFrom_53 : decode cX12_soonestFrom 53 = .ok (.iload 4, 2) := by decide +kernel
theorem dX12_soonestFrom_55 : decode cX12_soonestFrom 55 = .ok (.invokevirtual 331, 3) := by decide +kernel
theorem dX12_soonestFrom_58 : decode cX12_soonestFrom 58 = .ok (.invokevirtual 334, 3) := by decide +kernel
theorem dX12_soonestFrom_61 : decode cX12_soonestFrom 61 = .ok (.ifCond .eq 6, 3) := by decide +kernel
theorem dX12_soonestFrom_64 : decode cX12_soonestFrom 64 = .ok (.goto 48, 3) := by decide +kernel
theorem dX12_soonestFrom_67 : decode cX12_soonestFrom 67 = .ok (.iconst 1, 1) := by decide +kernel
theorem dX12_soonestFrom_68 : decode cX12_soonestFrom 68 = .ok (.aload_n 0, 1) := by decide +kernel
theorem dX12_soonestFrom_69 : decode cX12_soonestFrom 69 = .ok (.aload_n 0, 1) := by decide +kernel
theorem dX12_soonestFrom_70 : decode cX12_soonestFrom 70 = .ok (.iload_n 1, 1) := by decide +kernel
theorem dX12_soonestFrom_71 : decode cX12_soonestFrom 71 = .ok (.iload 4, 2) := by decide +kernel
theorem dX12_soonestFrom_73 : decode cX12_soonestFrom 73 = .ok (.invokevirtual 331, 3) := by decide +kernel
theorem dX12_soonestFrom_76 : decode cX12_soonestFrom 76 = .ok (.invokevirtual 336, 3) := by decide +kernel
theorem dX12_soonestFrom_79 : decode cX12_soonestFrom 79 = .ok (.iadd, 1) := by decide +kernel
theorem dX12_soonestFrom_80 : decode cX12_soonestFrom 80 = .ok (.istore 5, 2) := by decide +kernel
theorem dX12_soonestFrom_82 : decode cX12_soonestFrom 82 = .ok (.iload_n 3, 1) := by decide +kernel
theorem dX12_soonestFrom_83 : decode cX12_soonestFrom 83 = .ok (.ifCond .lt 22, 3) := by decide +kernel
theorem dX12_soonestFrom_86 : decode cX12_soonestFrom 86 = .ok (.iload_n 2, 1) := by decide +kernel
theorem dX12_soonestFrom_87 : decode cX12_soonestFrom 87 = .ok (.ifCond .eq 12, 3) := by decide +kernel
theorem dX12_soonestFrom_90 : decode cX12_soonestFrom 90 = .ok (.iload 5, 2) := by decide +kernel
theorem dX12_soonestFrom_92 : decode cX12_soonestFrom 92 = .ok (.iload_n 3, 1) := by decide +kernel
theorem dX12_soonestFrom_93 : decode cX12_soonestFrom 93 = .ok (.if_icmp .ge 17, 3) := by decide +kernel
theorem dX12_soonestFrom_96 : decode cX12_soonestFrom 96 = .ok (.goto 9, 3) := by decide +kernel
theorem dX12_soonestFrom_99 : decode cX12_soonestFrom 99 = .ok (.iload 5, 2) := by decide +kernel
theorem dX12_soonestFrom_101 : decode cX12_soonestFrom 101 = .ok (.iload_n 3, 1) := by decide +kernel
theorem dX12_soonestFrom_102 : decode cX12_soonestFrom 102 = .ok (.if_icmp .le 8, 3) := by decide +kernel
theorem dX12_soonestFrom_105 : decode cX12_soonestFrom 105 = .ok (.iload 5, 2) := by decide +kernel
theorem dX12_soonestFrom_107 : decode cX12_soonestFrom 107 = .ok (.goto 4, 3) := by decide +kernel
theorem dX12_soonestFrom_110 : decode cX12_soonestFrom 110 = .ok (.iload_n 3, 1) := by decide +kernel
theorem dX12_soonestFrom_111 : decode cX12_soonestFrom 111 = .ok (.istore_n 3, 1) := by decide +kernel
theorem dX12_soonestFrom_112 : decode cX12_soonestFrom 112 = .ok (.iinc 4 1, 3) := by decide +kernel
theorem dX12_soonestFrom_115 : decode cX12_soonestFrom 115 = .ok (.goto (-88), 3) := by decide +kernel
theorem dX12_soonestFrom_118 : decode cX12_soonestFrom 118 = .ok (.aload_n 0, 1) := by decide +kernel
theorem dX12_soonestFrom_119 : decode cX12_soonestFrom 119 = .ok (.getfield 63, 3) := by decide +kernel
theorem dX12_soonestFrom_122 : decode cX12_soonestFrom 122 = .ok (.iload_n 1, 1) := by decide +kernel
theorem dX12_soonestFrom_123 : decode cX12_soonestFrom 123 = .ok (.iload_n 3, 1) := by decide +kernel
theorem dX12_soonestFrom_124 : decode cX12_soonestFrom 124 = .ok (.ifCond .ge 7, 3) := by decide +kernel
theorem dX12_soonestFrom_127 : decode cX12_soonestFrom 127 = .ok (.iconst 0, 1) := by decide +kernel
theorem dX12_soonestFrom_128 : decode cX12_soonestFrom 128 = .ok (.goto 4, 3) := by decide +kernel
theorem dX12_soonestFrom_131 : decode cX12_soonestFrom 131 = .ok (.iload_n 3, 1) := by decide +kernel
theorem dX12_soonestFrom_132 : decode cX12_soonestFrom 132 = .ok (.iastore, 1) := by decide +kernel
theorem dX12_soonestFrom_133 : decode cX12_soonestFrom 133 = .ok (.aload_n 0, 1) := by decide +kernel
theorem dX12_soonestFrom_134 : decode cX12_soonestFrom 134 = .ok (.getfield 63, 3) := by decide +kernel
theorem dX12_soonestFrom_137 : decode cX12_soonestFrom 137 = .ok (.iload_n 1, 1) := by decide +kernel
theorem dX12_soonestFrom_138 : decode cX12_soonestFrom 138 = .ok (.iaload, 1) := by decide +kernel
theorem dX12_soonestFrom_139 : decode cX12_soonestFrom 139 = .ok (.ireturn, 1) := by decide +kernel
theorem dX12_waysFrom_0 : decode cX12_waysFrom 0 = .ok (.aload_n 0, 1) := by decide +kernel
theorem dX12_waysFrom_1 : decode cX12_waysFrom 1 = .ok (.getfield 78, 3) := by decide +kernel
theorem dX12_waysFrom_4 : decode cX12_waysFrom 4 = .ok (.iload_n 1, 1) := by decide +kernel
theorem dX12_waysFrom_5 : decode cX12_waysFrom 5 = .ok (.laload, 1) := by decide +kernel
theorem dX12_waysFrom_6 : decode cX12_waysFrom 6 = .ok (.lconst 0, 1) := by decide +kernel
theorem dX12_waysFrom_7 : decode cX12_waysFrom 7 = .ok (.lcmp, 1) := by decide +kernel
theorem dX12_waysFrom_8 : decode cX12_waysFrom 8 = .ok (.ifCond .lt 10, 3) := by decide +kernel
theorem dX12_waysFrom_11 : decode cX12_waysFrom 11 = .ok (.aload_n 0, 1) := by decide +kernel
theorem dX12_waysFrom_12 : decode cX12_waysFrom 12 = .ok (.getfield 78, 3) := by decide +kernel
theorem dX12_waysFrom_15 : decode cX12_waysFrom 15 = .ok (.iload_n 1, 1) := by decide +kernel
theorem dX12_waysFrom_16 : decode cX12_waysFrom 16 = .ok (.laload, 1) := by decide +kernel
theorem dX12_waysFrom_17 : decode cX12_waysFrom 17 = .ok (.lreturn, 1) := by decide +kernel
theorem dX12_waysFrom_18 : decode cX12_waysFrom 18 = .ok (.lconst 0, 1) := by decide +kernel
theorem dX12_waysFrom_19 : decode cX12_waysFrom 19 = .ok (.lstore_n 2, 1) := by decide +kernel
theorem dX12_waysFrom_20 : decode cX12_waysFrom 20 = .ok (.iconst 0, 1) := by decide +kernel
theorem dX12_waysFrom_21 : decode cX12_waysFrom 21 = .ok (.istore 4, 2) := by decide +kernel
theorem dX12_waysFrom_23 : decode cX12_waysFrom 23 = .ok (.iload 4, 2) := by decide +kernel
theorem dX12_waysFrom_25 : decode cX12_waysFrom 25 = .ok (.aload_n 0, 1) := by decide +kernel
theorem dX12_waysFrom_26 : decode cX12_waysFrom 26 = .ok (.getfield 205, 3) := by decide +kernel
theorem dX12_waysFrom_29 : decode cX12_waysFrom 29 = .ok (.if_icmp .ge 52, 3) := by decide +kernel
theorem dX12_waysFrom_32 : decode cX12_waysFrom 32 = .ok (.aload_n 0, 1) := by decide +kernel
theorem dX12_waysFrom_33 : decode cX12_waysFrom 33 = .ok (.iload_n 1, 1) := by decide +kernel
theorem dX12_waysFrom_34 : decode cX12_waysFrom 34 = .ok (.iload 4, 2) := by decide +kernel
theorem dX12_waysFrom_36 : decode cX12_waysFrom 36 = .ok (.invokevirtual 302, 3) := by decide +kernel
theorem dX12_waysFrom_39 : decode cX12_waysFrom 39 = .ok (.ifCond .ne 6, 3) := by decide +kernel
theorem dX12_waysFrom_42 : decode cX12_waysFrom 42 = .ok (.goto 33, 3) := by decide +kernel
theorem dX12_waysFrom_45 : decode cX12_waysFrom 45 = .ok (.lload_n 2, 1) := by decide +kernel
theorem dX12_waysFrom_46 : decode cX12_waysFrom 46 = .ok (.aload_n 0, 1) := by decide +kernel
theorem dX12_waysFrom_47 : decode cX12_waysFrom 47 = .ok (.aload_n 0, 1) := by decide +kernel
theorem dX12_waysFrom_48 : decode cX12_waysFrom 48 = .ok (.iload_n 1, 1) := by decide +kernel
theorem dX12_waysFrom_49 : decode cX12_waysFrom 49 = .ok (.iload 4, 2) := by decide +kernel
theorem dX12_waysFrom_51 : decode cX12_waysFrom 51 = .ok (.invokevirtual 331, 3) := by decide +kernel
theorem dX12_waysFrom_54 : decode cX12_waysFrom 54 = .ok (.invokevirtual 339, 3) := by decide +kernel
theorem dX12_waysFrom_57 : decode cX12_waysFrom 57 = .ok (.ladd, 1) := by decide +kernel
theorem dX12_waysFrom_58 : decode cX12_waysFrom 58 = .ok (.lstore_n 2, 1) := by decide +kernel
theorem dX12_waysFrom_59 : decode cX12_waysFrom 59 = .ok (.lload_n 2, 1) := by decide +kernel
theorem dX12_waysFrom_60 : decode cX12_waysFrom 60 = .ok (.ldc2_w 343, 3) := by decide +kernel
theorem dX12_waysFrom_63 : decode cX12_waysFrom 63 = .ok (.lcmp, 1) := by decide +kernel
theorem dX12_waysFrom_64 : decode cX12_waysFrom 64 = .ok (.ifCond .le 9, 3) := by decide +kernel
theorem dX12_waysFrom_67 : decode cX12_waysFrom 67 = .ok (.ldc2_w 343, 3) := by decide +kernel
theorem dX12_waysFrom_70 : decode cX12_waysFrom 70 = .ok (.goto 4, 3) := by decide +kernel
theorem dX12_waysFrom_73 : decode cX12_waysFrom 73 = .ok (.lload_n 2, 1) := by decide +kernel
theorem dX12_waysFrom_74 : decode cX12_waysFrom 74 = .ok (.lstore_n 2, 1) := by decide +kernel
theorem dX12_waysFrom_75 : decode cX12_waysFrom 75 = .ok (.iinc 4 1, 3) := by decide +kernel
theorem dX12_waysFrom_78 : decode cX12_waysFrom 78 = .ok (.goto (-55), 3) := by decide +kernel
theorem dX12_waysFrom_81 : decode cX12_waysFrom 81 = .ok (.aload_n 0, 1) := by decide +kernel
theorem dX12_waysFrom_82 : decode cX12_waysFrom 82 = .ok (.getfield 78, 3) := by decide +kernel
theorem dX12_waysFrom_85 : decode cX12_waysFrom 85 = .ok (.iload_n 1, 1) := by decide +kernel
theorem dX12_waysFrom_86 : decode cX12_waysFrom 86 = .ok (.aload_n 0, 1) := by decide +kernel
theorem dX12_waysFrom_87 : decode cX12_waysFrom 87 = .ok (.iload_n 1, 1) := by decide +kernel
theorem dX12_waysFrom_88 : decode cX12_waysFrom 88 = .ok (.invokevirtual 328, 3) := by decide +kernel
theorem dX12_waysFrom_91 : decode cX12_waysFrom 91 = .ok (.ifCond .eq 7, 3) := by decide +kernel
theorem dX12_waysFrom_94 : decode cX12_waysFrom 94 = .ok (.lconst 1, 1) := by decide +kernel
theorem dX12_waysFrom_95 : decode cX12_waysFrom 95 = .ok (.goto 4, 3) := by decide +kernel
theorem dX12_waysFrom_98 : decode cX12_waysFrom 98 = .ok (.lload_n 2, 1) := by decide +kernel
theorem dX12_waysFrom_99 : decode cX12_waysFrom 99 = .ok (.lastore, 1) := by decide +kernel
theorem dX12_waysFrom_100 : decode cX12_waysFrom 100 = .ok (.aload_n 0, 1) := by decide +kernel
theorem dX12_waysFrom_101 : decode cX12_waysFrom 101 = .ok (.getfield 78, 3) := by decide +kernel
theorem dX12_waysFrom_104 : decode cX12_waysFrom 104 = .ok (.iload_n 1, 1) := by decide +kernel
theorem dX12_waysFrom_105 : decode cX12_waysFrom 105 = .ok (.laload, 1) := by decide +kernel
theorem dX12_waysFrom_106 : decode cX12_waysFrom 106 = .ok (.lreturn, 1) := by decide +kernel
theorem dX12_fewestFrom_0 : decode cX12_fewestFrom 0 = .ok (.aload_n 0, 1) := by decide +kernel
theorem dX12_fewestFrom_1 : decode cX12_fewestFrom 1 = .ok (.getfield 66, 3) := by decide +kernel
theorem dX12_fewestFrom_4 : decode cX12_fewestFrom 4 = .ok (.iload_n 1, 1) := by decide +kernel
theorem dX12_fewestFrom_5 : decode cX12_fewestFrom 5 = .ok (.iaload, 1) := by decide +kernel
theorem dX12_fewestFrom_6 : decode cX12_fewestFrom 6 = .ok (.ifCond .lt 10, 3) := by decide +kernel
theorem dX12_fewestFrom_9 : decode cX12_fewestFrom 9 = .ok (.aload_n 0, 1) := by decide +kernel
theorem dX12_fewestFrom_10 : decode cX12_fewestFrom 10 = .ok (.getfield 66, 3) := by decide +kernel
theorem dX12_fewestFrom_13 : decode cX12_fewestFrom 13 = .ok (.iload_n 1, 1) := by decide +kernel
theorem dX12_fewestFrom_14 : decode cX12_fewestFrom 14 = .ok (.iaload, 1) := by decide +kernel
theorem dX12_fewestFrom_15 : decode cX12_fewestFrom 15 = .ok (.ireturn, 1) := by decide +kernel
theorem dX12_fewestFrom_16 : decode cX12_fewestFrom 16 = .ok (.iconst (-1), 1) := by decide +kernel
theorem dX12_fewestFrom_17 : decode cX12_fewestFrom 17 = .ok (.istore_n 2, 1) := by decide +kernel
theorem dX12_fewestFrom_18 : decode cX12_fewestFrom 18 = .ok (.iconst 0, 1) := by decide +kernel
theorem dX12_fewestFrom_19 : decode cX12_fewestFrom 19 = .ok (.istore_n 3, 1) := by decide +kernel
theorem dX12_fewestFrom_20 : decode cX12_fewestFrom 20 = .ok (.iload_n 3, 1) := by decide +kernel
theorem dX12_fewestFrom_21 : decode cX12_fewestFrom 21 = .ok (.aload_n 0, 1) := by decide +kernel
theorem dX12_fewestFrom_22 : decode cX12_fewestFrom 22 = .ok (.getfield 205, 3) := by decide +kernel
theorem dX12_fewestFrom_25 : decode cX12_fewestFrom 25 = .ok (.if_icmp .ge 52, 3) := by decide +kernel
theorem dX12_fewestFrom_28 : decode cX12_fewestFrom 28 = .ok (.aload_n 0, 1) := by decide +kernel
theorem dX12_fewestFrom_29 : decode cX12_fewestFrom 29 = .ok (.iload_n 1, 1) := by decide +kernel
theorem dX12_fewestFrom_30 : decode cX12_fewestFrom 30 = .ok (.iload_n 3, 1) := by decide +kernel
theorem dX12_fewestFrom_31 : decode cX12_fewestFrom 31 = .ok (.invokevirtual 302, 3) := by decide +kernel
theorem dX12_fewestFrom_34 : decode cX12_fewestFrom 34 = .ok (.ifCond .ne 6, 3) := by decide +kernel
theorem dX12_fewestFrom_37 : decode cX12_fewestFrom 37 = .ok (.goto 34, 3) := by decide +kernel
theorem dX12_fewestFrom_40 : decode cX12_fewestFrom 40 = .ok (.iconst 1, 1) := by decide +kernel
theorem dX12_fewestFrom_41 : decode cX12_fewestFrom 41 = .ok (.aload_n 0, 1) := by decide +kernel
theorem dX12_fewestFrom_42 : decode cX12_fewestFrom 42 = .ok (.aload_n 0, 1) := by decide +kernel
theorem dX12_fewestFrom_43 : decode cX12_fewestFrom 43 = .ok (.iload_n 1, 1) := by decide +kernel
theorem dX12_fewestFrom_44 : decode cX12_fewestFrom 44 = .ok (.iload_n 3, 1) := by decide +kernel
theorem dX12_fewestFrom_45 : decode cX12_fewestFrom 45 = .ok (.invokevirtual 331, 3) := by decide +kernel
theorem dX12_fewestFrom_48 : decode cX12_fewestFrom 48 = .ok (.invokevirtual 345, 3) := by decide +kernel
theorem dX12_fewestFrom_51 : decode cX12_fewestFrom 51 = .ok (.iadd, 1) := by decide +kernel
theorem dX12_fewestFrom_52 : decode cX12_fewestFrom 52 = .ok (.istore 4, 2) := by decide +kernel
theorem dX12_fewestFrom_54 : decode cX12_fewestFrom 54 = .ok (.iload_n 2, 1) := by decide +kernel
theorem dX12_fewestFrom_55 : decode cX12_fewestFrom 55 = .ok (.ifCond .lt 9, 3) := by decide +kernel
theorem dX12_fewestFrom_58 : decode cX12_fewestFrom 58 = .ok (.iload 4, 2) := by decide +kernel
theorem dX12_fewestFrom_60 : decode cX12_fewestFrom 60 = .ok (.iload_n 2, 1) := by decide +kernel
theorem dX12_fewestFrom_61 : decode cX12_fewestFrom 61 = .ok (.if_icmp .ge 8, 3) := by decide +kernel
theorem dX12_fewestFrom_64 : decode cX12_fewestFrom 64 = .ok (.iload 4, 2) := by decide +kernel
theorem dX12_fewestFrom_66 : decode cX12_fewestFrom 66 = .ok (.goto 4, 3) := by decide +kernel
theorem dX12_fewestFrom_69 : decode cX12_fewestFrom 69 = .ok (.iload_n 2, 1) := by decide +kernel
theorem dX12_fewestFrom_70 : decode cX12_fewestFrom 70 = .ok (.istore_n 2, 1) := by decide +kernel
theorem dX12_fewestFrom_71 : decode cX12_fewestFrom 71 = .ok (.iinc 3 1, 3) := by decide +kernel
theorem dX12_fewestFrom_74 : decode cX12_fewestFrom 74 = .ok (.goto (-54), 3) := by decide +kernel
theorem dX12_fewestFrom_77 : decode cX12_fewestFrom 77 = .ok (.aload_n 0, 1) := by decide +kernel
theorem dX12_fewestFrom_78 : decode cX12_fewestFrom 78 = .ok (.getfield 66, 3) := by decide +kernel
theorem dX12_fewestFrom_81 : decode cX12_fewestFrom 81 = .ok (.iload_n 1, 1) := by decide +kernel
theorem dX12_fewestFrom_82 : decode cX12_fewestFrom 82 = .ok (.iload_n 2, 1) := by decide +kernel
theorem dX12_fewestFrom_83 : decode cX12_fewestFrom 83 = .ok (.ifCond .ge 7, 3) := by decide +kernel
theorem dX12_fewestFrom_86 : decode cX12_fewestFrom 86 = .ok (.iconst 0, 1) := by decide +kernel
theorem dX12_fewestFrom_87 : decode cX12_fewestFrom 87 = .ok (.goto 4, 3) := by decide +kernel
theorem dX12_fewestFrom_90 : decode cX12_fewestFrom 90 = .ok (.iload_n 2, 1) := by decide +kernel
theorem dX12_fewestFrom_91 : decode cX12_fewestFrom 91 = .ok (.iastore, 1) := by decide +kernel
theorem dX12_fewestFrom_92 : decode cX12_fewestFrom 92 = .ok (.aload_n 0, 1) := by decide +kernel
theorem dX12_fewestFrom_93 : decode cX12_fewestFrom 93 = .ok (.getfield 66, 3) := by decide +kernel
theorem dX12_fewestFrom_96 : decode cX12_fewestFrom 96 = .ok (.iload_n 1, 1) := by decide +kernel
theorem dX12_fewestFrom_97 : decode cX12_fewestFrom 97 = .ok (.iaload, 1) := by decide +kernel
theorem dX12_fewestFrom_98 : decode cX12_fewestFrom 98 = .ok (.ireturn, 1) := by decide +kernel
theorem dX12_mostFrom_0 : decode cX12_mostFrom 0 = .ok (.aload_n 0, 1) := by decide +kernel
theorem dX12_mostFrom_1 : decode cX12_mostFrom 1 = .ok (.getfield 69, 3) := by decide +kernel
theorem dX12_mostFrom_4 : decode cX12_mostFrom 4 = .ok (.iload_n 1, 1) := by decide +kernel
theorem dX12_mostFrom_5 : decode cX12_mostFrom 5 = .ok (.iaload, 1) := by decide +kernel
theorem dX12_mostFrom_6 : decode cX12_mostFrom 6 = .ok (.ifCond .lt 10, 3) := by decide +kernel
theorem dX12_mostFrom_9 : decode cX12_mostFrom 9 = .ok (.aload_n 0, 1) := by decide +kernel
theorem dX12_mostFrom_10 : decode cX12_mostFrom 10 = .ok (.getfield 69, 3) := by decide +kernel
theorem dX12_mostFrom_13 : decode cX12_mostFrom 13 = .ok (.iload_n 1, 1) := by decide +kernel
theorem dX12_mostFrom_14 : decode cX12_mostFrom 14 = .ok (.iaload, 1) := by decide +kernel
theorem dX12_mostFrom_15 : decode cX12_mostFrom 15 = .ok (.ireturn, 1) := by decide +kernel
theorem dX12_mostFrom_16 : decode cX12_mostFrom 16 = .ok (.iconst 0, 1) := by decide +kernel
theorem dX12_mostFrom_17 : decode cX12_mostFrom 17 = .ok (.istore_n 2, 1) := by decide +kernel
theorem dX12_mostFrom_18 : decode cX12_mostFrom 18 = .ok (.iconst 0, 1) := by decide +kernel
theorem dX12_mostFrom_19 : decode cX12_mostFrom 19 = .ok (.istore_n 3, 1) := by decide +kernel
theorem dX12_mostFrom_20 : decode cX12_mostFrom 20 = .ok (.iload_n 3, 1) := by decide +kernel
theorem dX12_mostFrom_21 : decode cX12_mostFrom 21 = .ok (.aload_n 0, 1) := by decide +kernel
theorem dX12_mostFrom_22 : decode cX12_mostFrom 22 = .ok (.getfield 205, 3) := by decide +kernel
theorem dX12_mostFrom_25 : decode cX12_mostFrom 25 = .ok (.if_icmp .ge 48, 3) := by decide +kernel
theorem dX12_mostFrom_28 : decode cX12_mostFrom 28 = .ok (.aload_n 0, 1) := by decide +kernel
theorem dX12_mostFrom_29 : decode cX12_mostFrom 29 = .ok (.iload_n 1, 1) := by decide +kernel
theorem dX12_mostFrom_30 : decode cX12_mostFrom 30 = .ok (.iload_n 3, 1) := by decide +kernel
theorem dX12_mostFrom_31 : decode cX12_mostFrom 31 = .ok (.invokevirtual 302, 3) := by decide +kernel
theorem dX12_mostFrom_34 : decode cX12_mostFrom 34 = .ok (.ifCond .ne 6, 3) := by decide +kernel
theorem dX12_mostFrom_37 : decode cX12_mostFrom 37 = .ok (.goto 30, 3) := by decide +kernel
theorem dX12_mostFrom_40 : decode cX12_mostFrom 40 = .ok (.iconst 1, 1) := by decide +kernel
theorem dX12_mostFrom_41 : decode cX12_mostFrom 41 = .ok (.aload_n 0, 1) := by decide +kernel
theorem dX12_mostFrom_42 : decode cX12_mostFrom 42 = .ok (.aload_n 0, 1) := by decide +kernel
theorem dX12_mostFrom_43 : decode cX12_mostFrom 43 = .ok (.iload_n 1, 1) := by decide +kernel
theorem dX12_mostFrom_44 : decode cX12_mostFrom 44 = .ok (.iload_n 3, 1) := by decide +kernel
theorem dX12_mostFrom_45 : decode cX12_mostFrom 45 = .ok (.invokevirtual 331, 3) := by decide +kernel
theorem dX12_mostFrom_48 : decode cX12_mostFrom 48 = .ok (.invokevirtual 348, 3) := by decide +kernel
theorem dX12_mostFrom_51 : decode cX12_mostFrom 51 = .ok (.iadd, 1) := by decide +kernel
theorem dX12_mostFrom_52 : decode cX12_mostFrom 52 = .ok (.istore 4, 2) := by decide +kernel
theorem dX12_mostFrom_54 : decode cX12_mostFrom 54 = .ok (.iload 4, 2) := by decide +kernel
theorem dX12_mostFrom_56 : decode cX12_mostFrom 56 = .ok (.iload_n 2, 1) := by decide +kernel
theorem dX12_mostFrom_57 : decode cX12_mostFrom 57 = .ok (.if_icmp .le 8, 3) := by decide +kernel
theorem dX12_mostFrom_60 : decode cX12_mostFrom 60 = .ok (.iload 4, 2) := by decide +kernel
theorem dX12_mostFrom_62 : decode cX12_mostFrom 62 = .ok (.goto 4, 3) := by decide +kernel
theorem dX12_mostFrom_65 : decode cX12_mostFrom 65 = .ok (.iload_n 2, 1) := by decide +kernel
theorem dX12_mostFrom_66 : decode cX12_mostFrom 66 = .ok (.istore_n 2, 1) := by decide +kernel
theorem dX12_mostFrom_67 : decode cX12_mostFrom 67 = .ok (.iinc 3 1, 3) := by decide +kernel
theorem dX12_mostFrom_70 : decode cX12_mostFrom 70 = .ok (.goto (-50), 3) := by decide +kernel
theorem dX12_mostFrom_73 : decode cX12_mostFrom 73 = .ok (.aload_n 0, 1) := by decide +kernel
theorem dX12_mostFrom_74 : decode cX12_mostFrom 74 = .ok (.getfield 69, 3) := by decide +kernel
theorem dX12_mostFrom_77 : decode cX12_mostFrom 77 = .ok (.iload_n 1, 1) := by decide +kernel
theorem dX12_mostFrom_78 : decode cX12_mostFrom 78 = .ok (.iload_n 2, 1) := by decide +kernel
theorem dX12_mostFrom_79 : decode cX12_mostFrom 79 = .ok (.iastore, 1) := by decide +kernel
theorem dX12_mostFrom_80 : decode cX12_mostFrom 80 = .ok (.iload_n 2, 1) := by decide +kernel
theorem dX12_mostFrom_81 : decode cX12_mostFrom 81 = .ok (.ireturn, 1) := by decide +kernel
theorem dX12_lotFrom_0 : decode cX12_lotFrom 0 = .ok (.aload_n 0, 1) := by decide +kernel
theorem dX12_lotFrom_1 : decode cX12_lotFrom 1 = .ok (.getfield 72, 3) := by decide +kernel
theorem dX12_lotFrom_4 : decode cX12_lotFrom 4 = .ok (.iload_n 1, 1) := by decide +kernel
theorem dX12_lotFrom_5 : decode cX12_lotFrom 5 = .ok (.iaload, 1) := by decide +kernel
theorem dX12_lotFrom_6 : decode cX12_lotFrom 6 = .ok (.ifCond .lt 10, 3) := by decide +kernel
theorem dX12_lotFrom_9 : decode cX12_lotFrom 9 = .ok (.aload_n 0, 1) := by decide +kernel
theorem dX12_lotFrom_10 : decode cX12_lotFrom 10 = .ok (.getfield 72, 3) := by decide +kernel
theorem dX12_lotFrom_13 : decode cX12_lotFrom 13 = .ok (.iload_n 1, 1) := by decide +kernel
theorem dX12_lotFrom_14 : decode cX12_lotFrom 14 = .ok (.iaload, 1) := by decide +kernel
theorem dX12_lotFrom_15 : decode cX12_lotFrom 15 = .ok (.ireturn, 1) := by decide +kernel
theorem dX12_lotFrom_16 : decode cX12_lotFrom 16 = .ok (.lconst 0, 1) := by decide +kernel
theorem dX12_lotFrom_17 : decode cX12_lotFrom 17 = .ok (.lstore_n 2, 1) := by decide +kernel
theorem dX12_lotFrom_18 : decode cX12_lotFrom 18 = .ok (.iconst 0, 1) := by decide +kernel
theorem dX12_lotFrom_19 : decode cX12_lotFrom 19 = .ok (.istore 4, 2) := by decide +kernel
theorem dX12_lotFrom_21 : decode cX12_lotFrom 21 = .ok (.iconst 0, 1) := by decide +kernel
theorem dX12_lotFrom_22 : decode cX12_lotFrom 22 = .ok (.istore 5, 2) := by decide +kernel
theorem dX12_lotFrom_24 : decode cX12_lotFrom 24 = .ok (.iload 5, 2) := by decide +kernel
theorem dX12_lotFrom_26 : decode cX12_lotFrom 26 = .ok (.aload_n 0, 1) := by decide +kernel
theorem dX12_lotFrom_27 : decode cX12_lotFrom 27 = .ok (.getfield 205, 3) := by decide +kernel
theorem dX12_lotFrom_30 : decode cX12_lotFrom 30 = .ok (.if_icmp .ge 44, 3) := by decide +kernel
theorem dX12_lotFrom_33 : decode cX12_lotFrom 33 = .ok (.aload_n 0, 1) := by decide +kernel
theorem dX12_lotFrom_34 : decode cX12_lotFrom 34 = .ok (.iload_n 1, 1) := by decide +kernel
theorem dX12_lotFrom_35 : decode cX12_lotFrom 35 = .ok (.iload 5, 2) := by decide +kernel
theorem dX12_lotFrom_37 : decode cX12_lotFrom 37 = .ok (.invokevirtual 302, 3) := by decide +kernel
theorem dX12_lotFrom_40 : decode cX12_lotFrom 40 = .ok (.ifCond .ne 6, 3) := by decide +kernel
theorem dX12_lotFrom_43 : decode cX12_lotFrom 43 = .ok (.goto 25, 3) := by decide +kernel
theorem dX12_lotFrom_46 : decode cX12_lotFrom 46 = .ok (.lload_n 2, 1) := by decide +kernel
theorem dX12_lotFrom_47 : decode cX12_lotFrom 47 = .ok (.ldc_w 351, 3) := by decide +kernel
theorem dX12_lotFrom_50 : decode cX12_lotFrom 50 = .ok (.aload_n 0, 1) := by decide +kernel
theorem dX12_lotFrom_51 : decode cX12_lotFrom 51 = .ok (.aload_n 0, 1) := by decide +kernel
theorem dX12_lotFrom_52 : decode cX12_lotFrom 52 = .ok (.iload_n 1, 1) := by decide +kernel
theorem dX12_lotFrom_53 : decode cX12_lotFrom 53 = .ok (.iload 5, 2) := by decide +kernel
theorem dX12_lotFrom_55 : decode cX12_lotFrom 55 = .ok (.invokevirtual 331, 3) := by decide +kernel
theorem dX12_lotFrom_58 : decode cX12_lotFrom 58 = .ok (.invokevirtual 352, 3) := by decide +kernel
theorem dX12_lotFrom_61 : decode cX12_lotFrom 61 = .ok (.iadd, 1) := by decide +kernel
theorem dX12_lotFrom_62 : decode cX12_lotFrom 62 = .ok (.i2l, 1) := by decide +kernel
theorem dX12_lotFrom_63 : decode cX12_lotFrom 63 = .ok (.ladd, 1) := by decide +kernel
theorem dX12_lotFrom_64 : decode cX12_lotFrom 64 = .ok (.lstore_n 2, 1) := by decide +kernel
theorem dX12_lotFrom_65 : decode cX12_lotFrom 65 = .ok (.iinc 4 1, 3) := by decide +kernel
theorem dX12_lotFrom_68 : decode cX12_lotFrom 68 = .ok (.iinc 5 1, 3) := by decide +kernel
theorem dX12_lotFrom_71 : decode cX12_lotFrom 71 = .ok (.goto (-47), 3) := by decide +kernel
theorem dX12_lotFrom_74 : decode cX12_lotFrom 74 = .ok (.aload_n 0, 1) := by decide +kernel
theorem dX12_lotFrom_75 : decode cX12_lotFrom 75 = .ok (.getfield 72, 3) := by decide +kernel
theorem dX12_lotFrom_78 : decode cX12_lotFrom 78 = .ok (.iload_n 1, 1) := by decide +kernel
theorem dX12_lotFrom_79 : decode cX12_lotFrom 79 = .ok (.iload 4, 2) := by decide +kernel
theorem dX12_lotFrom_81 : decode cX12_lotFrom 81 = .ok (.ifCond .ne 7, 3) := by decide +kernel
theorem dX12_lotFrom_84 : decode cX12_lotFrom 84 = .ok (.iconst 0, 1) := by decide +kernel
theorem dX12_lotFrom_85 : decode cX12_lotFrom 85 = .ok (.goto 9, 3) := by decide +kernel
theorem dX12_lotFrom_88 : decode cX12_lotFrom 88 = .ok (.lload_n 2, 1) := by decide +kernel
theorem dX12_lotFrom_89 : decode cX12_lotFrom 89 = .ok (.iload 4, 2) := by decide +kernel
theorem dX12_lotFrom_91 : decode cX12_lotFrom 91 = .ok (.i2l, 1) := by decide +kernel
theorem dX12_lotFrom_92 : decode cX12_lotFrom 92 = .ok (.ldiv, 1) := by decide +kernel
theorem dX12_lotFrom_93 : decode cX12_lotFrom 93 = .ok (.l2i, 1) := by decide +kernel
theorem dX12_lotFrom_94 : decode cX12_lotFrom 94 = .ok (.iastore, 1) := by decide +kernel
theorem dX12_lotFrom_95 : decode cX12_lotFrom 95 = .ok (.aload_n 0, 1) := by decide +kernel
theorem dX12_lotFrom_96 : decode cX12_lotFrom 96 = .ok (.getfield 72, 3) := by decide +kernel
theorem dX12_lotFrom_99 : decode cX12_lotFrom 99 = .ok (.iload_n 1, 1) := by decide +kernel
theorem dX12_lotFrom_100 : decode cX12_lotFrom 100 = .ok (.iaload, 1) := by decide +kernel
theorem dX12_lotFrom_101 : decode cX12_lotFrom 101 = .ok (.ireturn, 1) := by decide +kernel
theorem dX12_over_0 : decode cX12_over 0 = .ok (.aload_n 0, 1) := by decide +kernel
theorem dX12_over_1 : decode cX12_over 1 = .ok (.invokevirtual 176, 3) := by decide +kernel
theorem dX12_over_4 : decode cX12_over 4 = .ok (.aload_n 0, 1) := by decide +kernel
theorem dX12_over_5 : decode cX12_over 5 = .ok (.getfield 185, 3) := by decide +kernel
theorem dX12_over_8 : decode cX12_over 8 = .ok (.ifCond .eq 22, 3) := by decide +kernel
theorem dX12_over_11 : decode cX12_over 11 = .ok (.aload_n 0, 1) := by decide +kernel
theorem dX12_over_12 : decode cX12_over 12 = .ok (.aload_n 0, 1) := by decide +kernel
theorem dX12_over_13 : decode cX12_over 13 = .ok (.invokevirtual 311, 3) := by decide +kernel
theorem dX12_over_16 : decode cX12_over 16 = .ok (.invokevirtual 328, 3) := by decide +kernel
theorem dX12_over_19 : decode cX12_over 19 = .ok (.ifCond .eq 7, 3) := by decide +kernel
theorem dX12_over_22 : decode cX12_over 22 = .ok (.iconst 1, 1) := by decide +kernel
theorem dX12_over_23 : decode cX12_over 23 = .ok (.goto 12, 3) := by decide +kernel
theorem dX12_over_26 : decode cX12_over 26 = .ok (.iconst 0, 1) := by decide +kernel
theorem dX12_over_27 : decode cX12_over 27 = .ok (.goto 8, 3) := by decide +kernel
theorem dX12_over_30 : decode cX12_over 30 = .ok (.aload_n 0, 1) := by decide +kernel
theorem dX12_over_31 : decode cX12_over 31 = .ok (.iconst 1, 1) := by decide +kernel
theorem dX12_over_32 : decode cX12_over 32 = .ok (.invokevirtual 179, 3) := by decide +kernel
theorem dX12_over_35 : decode cX12_over 35 = .ok (.ireturn, 1) := by decide +kernel
theorem dX12_has_0 : decode cX12_has 0 = .ok (.aload_n 0, 1) := by decide +kernel
theorem dX12_has_1 : decode cX12_has 1 = .ok (.invokevirtual 176, 3) := by decide +kernel
theorem dX12_has_4 : decode cX12_has 4 = .ok (.aload_n 0, 1) := by decide +kernel
theorem dX12_has_5 : decode cX12_has 5 = .ok (.getfield 185, 3) := by decide +kernel
theorem dX12_has_8 : decode cX12_has 8 = .ok (.ifCond .eq 22, 3) := by decide +kernel
theorem dX12_has_11 : decode cX12_has 11 = .ok (.aload_n 0, 1) := by decide +kernel
theorem dX12_has_12 : decode cX12_has 12 = .ok (.aload_n 0, 1) := by decide +kernel
theorem dX12_has_13 : decode cX12_has 13 = .ok (.invokevirtual 311, 3) := by decide +kernel
theorem dX12_has_16 : decode cX12_has 16 = .ok (.invokevirtual 334, 3) := by decide +kernel
theorem dX12_has_19 : decode cX12_has 19 = .ok (.ifCond .eq 7, 3) := by decide +kernel
theorem dX12_has_22 : decode cX12_has 22 = .ok (.iconst 1, 1) := by decide +kernel
theorem dX12_has_23 : decode cX12_has 23 = .ok (.goto 12, 3) := by decide +kernel
theorem dX12_has_26 : decode cX12_has 26 = .ok (.iconst 0, 1) := by decide +kernel
theorem dX12_has_27 : decode cX12_has 27 = .ok (.goto 8, 3) := by decide +kernel
theorem dX12_has_30 : decode cX12_has 30 = .ok (.aload_n 0, 1) := by decide +kernel
theorem dX12_has_31 : decode cX12_has 31 = .ok (.iconst 1, 1) := by decide +kernel
theorem dX12_has_32 : decode cX12_has 32 = .ok (.invokevirtual 179, 3) := by decide +kernel
theorem dX12_has_35 : decode cX12_has 35 = .ok (.ireturn, 1) := by decide +kernel
theorem dX12_goodOnes_0 : decode cX12_goodOnes 0 = .ok (.iconst 0, 1) := by decide +kernel
theorem dX12_goodOnes_1 : decode cX12_goodOnes 1 = .ok (.istore_n 2, 1) := by decide +kernel
theorem dX12_goodOnes_2 : decode cX12_goodOnes 2 = .ok (.aload_n 0, 1) := by decide +kernel
theorem dX12_goodOnes_3 : decode cX12_goodOnes 3 = .ok (.bipush (-2), 2) := by decide +kernel
theorem dX12_goodOnes_5 : decode cX12_goodOnes 5 = .ok (.putfield 355, 3) := by decide +kernel
theorem dX12_goodOnes_8 : decode cX12_goodOnes 8 = .ok (.iconst 0, 1) := by decide +kernel
theorem dX12_goodOnes_9 : decode cX12_goodOnes 9 = .ok (.istore_n 3, 1) := by decide +kernel
theorem dX12_goodOnes_10 : decode cX12_goodOnes 10 = .ok (.iload_n 3, 1) := by decide +kernel
theorem dX12_goodOnes_11 : decode cX12_goodOnes 11 = .ok (.aload_n 0, 1) := by decide +kernel
theorem dX12_goodOnes_12 : decode cX12_goodOnes 12 = .ok (.getfield 205, 3) := by decide +kernel
theorem dX12_goodOnes_15 : decode cX12_goodOnes 15 = .ok (.if_icmp .ge 53, 3) := by decide +kernel
theorem dX12_goodOnes_18 : decode cX12_goodOnes 18 = .ok (.aload_n 0, 1) := by decide +kernel
theorem dX12_goodOnes_19 : decode cX12_goodOnes 19 = .ok (.iload_n 1, 1) := by decide +kernel
theorem dX12_goodOnes_20 : decode cX12_goodOnes 20 = .ok (.iload_n 3, 1) := by decide +kernel
theorem dX12_goodOnes_21 : decode cX12_goodOnes 21 = .ok (.invokevirtual 302, 3) := by decide +kernel
theorem dX12_goodOnes_24 : decode cX12_goodOnes 24 = .ok (.ifCond .eq 38, 3) := by decide +kernel
theorem dX12_goodOnes_27 : decode cX12_goodOnes 27 = .ok (.aload_n 0, 1) := by decide +kernel
theorem dX12_goodOnes_28 : decode cX12_goodOnes 28 = .ok (.aload_n 0, 1) := by decide +kernel
theorem dX12_goodOnes_29 : decode cX12_goodOnes 29 = .ok (.iload_n 1, 1) := by decide +kernel
theorem dX12_goodOnes_30 : decode cX12_goodOnes 30 = .ok (.iload_n 3, 1) := by decide +kernel
theorem dX12_goodOnes_31 : decode cX12_goodOnes 31 = .ok (.invokevirtual 331, 3) := by decide +kernel
theorem dX12_goodOnes_34 : decode cX12_goodOnes 34 = .ok (.invokevirtual 334, 3) := by decide +kernel
theorem dX12_goodOnes_37 : decode cX12_goodOnes 37 = .ok (.ifCond .eq 6, 3) := by decide +kernel
theorem dX12_goodOnes_40 : decode cX12_goodOnes 40 = .ok (.goto 22, 3) := by decide +kernel
theorem dX12_goodOnes_43 : decode cX12_goodOnes 43 = .ok (.aload_n 0, 1) := by decide +kernel
theorem dX12_goodOnes_44 : decode cX12_goodOnes 44 = .ok (.iload_n 2, 1) := by decide +kernel
theorem dX12_goodOnes_45 : decode cX12_goodOnes 45 = .ok (.ifCond .ne 7, 3) := by decide +kernel
theorem dX12_goodOnes_48 : decode cX12_goodOnes 48 = .ok (.iload_n 3, 1) := by decide +kernel
theorem dX12_goodOnes_49 : decode cX12_goodOnes 49 = .ok (.goto 7, 3) := by decide +kernel
theorem dX12_goodOnes_52 : decode cX12_goodOnes 52 = .ok (.aload_n 0, 1) := by decide +kernel
theorem dX12_goodOnes_53 : decode cX12_goodOnes 53 = .ok (.getfield 355, 3) := by decide +kernel
theorem dX12_goodOnes_56 : decode cX12_goodOnes 56 = .ok (.putfield 355, 3) := by decide +kernel
theorem dX12_goodOnes_59 : decode cX12_goodOnes 59 = .ok (.iinc 2 1, 3) := by decide +kernel
theorem dX12_goodOnes_62 : decode cX12_goodOnes 62 = .ok (.iinc 3 1, 3) := by decide +kernel
theorem dX12_goodOnes_65 : decode cX12_goodOnes 65 = .ok (.goto (-55), 3) := by decide +kernel
theorem dX12_goodOnes_68 : decode cX12_goodOnes 68 = .ok (.iload_n 2, 1) := by decide +kernel
theorem dX12_goodOnes_69 : decode cX12_goodOnes 69 = .ok (.ireturn, 1) := by decide +kernel
theorem dX12_best_0 : decode cX12_best 0 = .ok (.aload_n 0, 1) := by decide +kernel
theorem dX12_best_1 : decode cX12_best 1 = .ok (.invokevirtual 176, 3) := by decide +kernel
theorem dX12_best_4 : decode cX12_best 4 = .ok (.aload_n 0, 1) := by decide +kernel
theorem dX12_best_5 : decode cX12_best 5 = .ok (.getfield 185, 3) := by decide +kernel
theorem dX12_best_8 : decode cX12_best 8 = .ok (.ifCond .ne 9, 3) := by decide +kernel
theorem dX12_best_11 : decode cX12_best 11 = .ok (.aload_n 0, 1) := by decide +kernel
theorem dX12_best_12 : decode cX12_best 12 = .ok (.iconst 1, 1) := by decide +kernel
theorem dX12_best_13 : decode cX12_best 13 = .ok (.invokevirtual 179, 3) := by decide +kernel
theorem dX12_best_16 : decode cX12_best 16 = .ok (.ireturn, 1) := by decide +kernel
theorem dX12_best_17 : decode cX12_best 17 = .ok (.aload_n 0, 1) := by decide +kernel
theorem dX12_best_18 : decode cX12_best 18 = .ok (.aload_n 0, 1) := by decide +kernel
theorem dX12_best_19 : decode cX12_best 19 = .ok (.invokevirtual 311, 3) := by decide +kernel
theorem dX12_best_22 : decode cX12_best 22 = .ok (.invokevirtual 358, 3) := by decide +kernel
theorem dX12_best_25 : decode cX12_best 25 = .ok (.pop, 1) := by decide +kernel
theorem dX12_best_26 : decode cX12_best 26 = .ok (.aload_n 0, 1) := by decide +kernel
theorem dX12_best_27 : decode cX12_best 27 = .ok (.getfield 355, 3) := by decide +kernel
theorem dX12_best_30 : decode cX12_best 30 = .ok (.ireturn, 1) := by decide +kernel
theorem dX12_good_0 : decode cX12_good 0 = .ok (.aload_n 0, 1) := by decide +kernel
theorem dX12_good_1 : decode cX12_good 1 = .ok (.invokevirtual 176, 3) := by decide +kernel
theorem dX12_good_4 : decode cX12_good 4 = .ok (.aload_n 0, 1) := by decide +kernel
theorem dX12_good_5 : decode cX12_good 5 = .ok (.getfield 185, 3) := by decide +kernel
theorem dX12_good_8 : decode cX12_good 8 = .ok (.ifCond .eq 14, 3) := by decide +kernel
theorem dX12_good_11 : decode cX12_good 11 = .ok (.aload_n 0, 1) := by decide +kernel
theorem dX12_good_12 : decode cX12_good 12 = .ok (.aload_n 0, 1) := by decide +kernel
theorem dX12_good_13 : decode cX12_good 13 = .ok (.invokevirtual 311, 3) := by decide +kernel
theorem dX12_good_16 : decode cX12_good 16 = .ok (.invokevirtual 358, 3) := by decide +kernel
theorem dX12_good_19 : decode cX12_good 19 = .ok (.goto 8, 3) := by decide +kernel
theorem dX12_good_22 : decode cX12_good 22 = .ok (.aload_n 0, 1) := by decide +kernel
theorem dX12_good_23 : decode cX12_good 23 = .ok (.iconst 1, 1) := by decide +kernel
theorem dX12_good_24 : decode cX12_good 24 = .ok (.invokevirtual 179, 3) := by decide +kernel
theorem dX12_good_27 : decode cX12_good 27 = .ok (.ireturn, 1) := by decide +kernel
theorem dX12_soonest_0 : decode cX12_soonest 0 = .ok (.aload_n 0, 1) := by decide +kernel
theorem dX12_soonest_1 : decode cX12_soonest 1 = .ok (.invokevirtual 176, 3) := by decide +kernel
theorem dX12_soonest_4 : decode cX12_soonest 4 = .ok (.aload_n 0, 1) := by decide +kernel
theorem dX12_soonest_5 : decode cX12_soonest 5 = .ok (.getfield 185, 3) := by decide +kernel
theorem dX12_soonest_8 : decode cX12_soonest 8 = .ok (.ifCond .eq 14, 3) := by decide +kernel
theorem dX12_soonest_11 : decode cX12_soonest 11 = .ok (.aload_n 0, 1) := by decide +kernel
theorem dX12_soonest_12 : decode cX12_soonest 12 = .ok (.aload_n 0, 1) := by decide +kernel
theorem dX12_soonest_13 : decode cX12_soonest 13 = .ok (.invokevirtual 311, 3) := by decide +kernel
theorem dX12_soonest_16 : decode cX12_soonest 16 = .ok (.invokevirtual 336, 3) := by decide +kernel
theorem dX12_soonest_19 : decode cX12_soonest 19 = .ok (.goto 8, 3) := by decide +kernel
theorem dX12_soonest_22 : decode cX12_soonest 22 = .ok (.aload_n 0, 1) := by decide +kernel
theorem dX12_soonest_23 : decode cX12_soonest 23 = .ok (.iconst 1, 1) := by decide +kernel
theorem dX12_soonest_24 : decode cX12_soonest 24 = .ok (.invokevirtual 179, 3) := by decide +kernel
theorem dX12_soonest_27 : decode cX12_soonest 27 = .ok (.ireturn, 1) := by decide +kernel
theorem dX12_ways_0 : decode cX12_ways 0 = .ok (.aload_n 0, 1) := by decide +kernel
theorem dX12_ways_1 : decode cX12_ways 1 = .ok (.invokevirtual 176, 3) := by decide +kernel
theorem dX12_ways_4 : decode cX12_ways 4 = .ok (.aload_n 0, 1) := by decide +kernel
theorem dX12_ways_5 : decode cX12_ways 5 = .ok (.getfield 185, 3) := by decide +kernel
theorem dX12_ways_8 : decode cX12_ways 8 = .ok (.ifCond .eq 14, 3) := by decide +kernel
theorem dX12_ways_11 : decode cX12_ways 11 = .ok (.aload_n 0, 1) := by decide +kernel
theorem dX12_ways_12 : decode cX12_ways 12 = .ok (.aload_n 0, 1) := by decide +kernel
theorem dX12_ways_13 : decode cX12_ways 13 = .ok (.invokevirtual 311, 3) := by decide +kernel
theorem dX12_ways_16 : decode cX12_ways 16 = .ok (.invokevirtual 339, 3) := by decide +kernel
theorem dX12_ways_19 : decode cX12_ways 19 = .ok (.goto 9, 3) := by decide +kernel
theorem dX12_ways_22 : decode cX12_ways 22 = .ok (.aload_n 0, 1) := by decide +kernel
theorem dX12_ways_23 : decode cX12_ways 23 = .ok (.iconst 1, 1) := by decide +kernel
theorem dX12_ways_24 : decode cX12_ways 24 = .ok (.invokevirtual 179, 3) := by decide +kernel
theorem dX12_ways_27 : decode cX12_ways 27 = .ok (.i2l, 1) := by decide +kernel
theorem dX12_ways_28 : decode cX12_ways 28 = .ok (.lreturn, 1) := by decide +kernel
theorem dX12_isHeap_0 : decode cX12_isHeap 0 = .ok (.aload_n 0, 1) := by decide +kernel
theorem dX12_isHeap_1 : decode cX12_isHeap 1 = .ok (.getfield 20, 3) := by decide +kernel
theorem dX12_isHeap_4 : decode cX12_isHeap 4 = .ok (.iconst 1, 1) := by decide +kernel
theorem dX12_isHeap_5 : decode cX12_isHeap 5 = .ok (.iaload, 1) := by decide +kernel
theorem dX12_isHeap_6 : decode cX12_isHeap 6 = .ok (.ifCond .ne 7, 3) := by decide +kernel
theorem dX12_isHeap_9 : decode cX12_isHeap 9 = .ok (.iconst 1, 1) := by decide +kernel
theorem dX12_isHeap_10 : decode cX12_isHeap 10 = .ok (.goto 4, 3) := by decide +kernel
theorem dX12_isHeap_13 : decode cX12_isHeap 13 = .ok (.iconst 0, 1) := by decide +kernel
theorem dX12_isHeap_14 : decode cX12_isHeap 14 = .ok (.istore_n 1, 1) := by decide +kernel
theorem dX12_isHeap_15 : decode cX12_isHeap 15 = .ok (.iconst 0, 1) := by decide +kernel
theorem dX12_isHeap_16 : decode cX12_isHeap 16 = .ok (.istore_n 2, 1) := by decide +kernel
theorem dX12_isHeap_17 : decode cX12_isHeap 17 = .ok (.iload_n 2, 1) := by decide +kernel
theorem dX12_isHeap_18 : decode cX12_isHeap 18 = .ok (.aload_n 0, 1) := by decide +kernel
theorem dX12_isHeap_19 : decode cX12_isHeap 19 = .ok (.getfield 20, 3) := by decide +kernel
theorem dX12_isHeap_22 : decode cX12_isHeap 22 = .ok (.iconst 4, 1) := by decide +kernel
theorem dX12_isHeap_23 : decode cX12_isHeap 23 = .ok (.iaload, 1) := by decide +kernel
theorem dX12_isHeap_24 : decode cX12_isHeap 24 = .ok (.if_icmp .ge 31, 3) := by decide +kernel
theorem dX12_isHeap_27 : decode cX12_isHeap 27 = .ok (.iload_n 1, 1) := by decide +kernel
theorem dX12_isHeap_28 : decode cX12_isHeap 28 = .ok (.ifCond .eq 19, 3) := by decide +kernel
theorem dX12_isHeap_31 : decode cX12_isHeap 31 = .ok (.aload_n 0, 1) := by decide +kernel
theorem dX12_isHeap_32 : decode cX12_isHeap 32 = .ok (.getfield 20, 3) := by decide +kernel
theorem dX12_isHeap_35 : decode cX12_isHeap 35 = .ok (.bipush 33, 2) := by decide +kernel
theorem dX12_isHeap_37 : decode cX12_isHeap 37 = .ok (.iload_n 2, 1) := by decide +kernel
theorem dX12_isHeap_38 : decode cX12_isHeap 38 = .ok (.iadd, 1) := by decide +kernel
theorem dX12_isHeap_39 : decode cX12_isHeap 39 = .ok (.iaload, 1) := by decide +kernel
theorem dX12_isHeap_40 : decode cX12_isHeap 40 = .ok (.ifCond .ne 7, 3) := by decide +kernel
theorem dX12_isHeap_43 : decode cX12_isHeap 43 = .ok (.iconst 1, 1) := by decide +kernel
theorem dX12_isHeap_44 : decode cX12_isHeap 44 = .ok (.goto 4, 3) := by decide +kernel
theorem dX12_isHeap_47 : decode cX12_isHeap 47 = .ok (.iconst 0, 1) := by decide +kernel
theorem dX12_isHeap_48 : decode cX12_isHeap 48 = .ok (.istore_n 1, 1) := by decide +kernel
theorem dX12_isHeap_49 : decode cX12_isHeap 49 = .ok (.iinc 2 1, 3) := by decide +kernel
theorem dX12_isHeap_52 : decode cX12_isHeap 52 = .ok (.goto (-35), 3) := by decide +kernel
theorem dX12_isHeap_55 : decode cX12_isHeap 55 = .ok (.iload_n 1, 1) := by decide +kernel
theorem dX12_isHeap_56 : decode cX12_isHeap 56 = .ok (.ireturn, 1) := by decide +kernel
theorem dX12_grundyOf_0 : decode cX12_grundyOf 0 = .ok (.aload_n 0, 1) := by decide +kernel
theorem dX12_grundyOf_1 : decode cX12_grundyOf 1 = .ok (.getfield 75, 3) := by decide +kernel
theorem dX12_grundyOf_4 : decode cX12_grundyOf 4 = .ok (.iload_n 1, 1) := by decide +kernel
theorem dX12_grundyOf_5 : decode cX12_grundyOf 5 = .ok (.iaload, 1) := by decide +kernel
theorem dX12_grundyOf_6 : decode cX12_grundyOf 6 = .ok (.ifCond .lt 10, 3) := by decide +kernel
theorem dX12_grundyOf_9 : decode cX12_grundyOf 9 = .ok (.aload_n 0, 1) := by decide +kernel
theorem dX12_grundyOf_10 : decode cX12_grundyOf 10 = .ok (.getfield 75, 3) := by decide +kernel
theorem dX12_grundyOf_13 : decode cX12_grundyOf 13 = .ok (.iload_n 1, 1) := by decide +kernel
theorem dX12_grundyOf_14 : decode cX12_grundyOf 14 = .ok (.iaload, 1) := by decide +kernel
theorem dX12_grundyOf_15 : decode cX12_grundyOf 15 = .ok (.ireturn, 1) := by decide +kernel
theorem dX12_grundyOf_16 : decode cX12_grundyOf 16 = .ok (.lconst 0, 1) := by decide +kernel
theorem dX12_grundyOf_17 : decode cX12_grundyOf 17 = .ok (.lstore_n 3, 1) := by decide +kernel
theorem dX12_grundyOf_18 : decode cX12_grundyOf 18 = .ok (.iconst 0, 1) := by decide +kernel
theorem dX12_grundyOf_19 : decode cX12_grundyOf 19 = .ok (.istore 5, 2) := by decide +kernel
theorem dX12_grundyOf_21 : decode cX12_grundyOf 21 = .ok (.iload 5, 2) := by decide +kernel
theorem dX12_grundyOf_23 : decode cX12_grundyOf 23 = .ok (.aload_n 0, 1) := by decide +kernel
theorem dX12_grundyOf_24 : decode cX12_grundyOf 24 = .ok (.getfield 205, 3) := by decide +kernel
theorem dX12_grundyOf_27 : decode cX12_grundyOf 27 = .ok (.if_icmp .ge 57, 3) := by decide +kernel
theorem dX12_grundyOf_30 : decode cX12_grundyOf 30 = .ok (.iload_n 2, 1) := by decide +kernel
theorem dX12_grundyOf_31 : decode cX12_grundyOf 31 = .ok (.ifCond .lt 14, 3) := by decide +kernel
theorem dX12_grundyOf_34 : decode cX12_grundyOf 34 = .ok (.aload_n 0, 1) := by decide +kernel
theorem dX12_grundyOf_35 : decode cX12_grundyOf 35 = .ok (.getfield 41, 3) := by decide +kernel
theorem dX12_grundyOf_38 : decode cX12_grundyOf 38 = .ok (.iload 5, 2) := by decide +kernel
theorem dX12_grundyOf_40 : decode cX12_grundyOf 40 = .ok (.iaload, 1) := by decide +kernel
theorem dX12_grundyOf_41 : decode cX12_grundyOf 41 = .ok (.iload_n 2, 1) := by decide +kernel
theorem dX12_grundyOf_42 : decode cX12_grundyOf 42 = .ok (.if_icmp .ne 36, 3) := by decide +kernel
theorem dX12_grundyOf_45 : decode cX12_grundyOf 45 = .ok (.aload_n 0, 1) := by decide +kernel
theorem dX12_grundyOf_46 : decode cX12_grundyOf 46 = .ok (.aload_n 0, 1) := by decide +kernel
theorem dX12_grundyOf_47 : decode cX12_grundyOf 47 = .ok (.getfield 20, 3) := by decide +kernel
theorem dX12_grundyOf_50 : decode cX12_grundyOf 50 = .ok (.iload_n 1, 1) := by decide +kernel
theorem dX12_grundyOf_51 : decode cX12_grundyOf 51 = .ok (.iload 5, 2) := by decide +kernel
theorem dX12_grundyOf_53 : decode cX12_grundyOf 53 = .ok (.invokevirtual 293, 3) := by decide +kernel
theorem dX12_grundyOf_56 : decode cX12_grundyOf 56 = .ok (.ifCond .eq 22, 3) := by decide +kernel
theorem dX12_grundyOf_59 : decode cX12_grundyOf 59 = .ok (.lload_n 3, 1) := by decide +kernel
theorem dX12_grundyOf_60 : decode cX12_grundyOf 60 = .ok (.lconst 1, 1) := by decide +kernel
theorem dX12_grundyOf_61 : decode cX12_grundyOf 61 = .ok (.aload_n 0, 1) := by decide +kernel
theorem dX12_grundyOf_62 : decode cX12_grundyOf 62 = .ok (.iload_n 1, 1) := by decide +kernel
theorem dX12_grundyOf_63 : decode cX12_grundyOf 63 = .ok (.aload_n 0, 1) := by decide +kernel
theorem dX12_grundyOf_64 : decode cX12_grundyOf 64 = .ok (.getfield 53, 3) := by decide +kernel
theorem dX12_grundyOf_67 : decode cX12_grundyOf 67 = .ok (.iload 5, 2) := by decide +kernel
theorem dX12_grundyOf_69 : decode cX12_grundyOf 69 = .ok (.iaload, 1) := by decide +kernel
theorem dX12_grundyOf_70 : decode cX12_grundyOf 70 = .ok (.ior, 1) := by decide +kernel
theorem dX12_grundyOf_71 : decode cX12_grundyOf 71 = .ok (.iload_n 2, 1) := by decide +kernel
theorem dX12_grundyOf_72 : decode cX12_grundyOf 72 = .ok (.invokevirtual 361, 3) := by decide +kernel
theorem dX12_grundyOf_75 : decode cX12_grundyOf 75 = .ok (.lshl, 1) := by decide +kernel
theorem dX12_grundyOf_76 : decode cX12_grundyOf 76 = .ok (.lor, 1) := by decide +kernel
theorem dX12_grundyOf_77 : decode cX12_grundyOf 77 = .ok (.lstore_n 3, 1) := by decide +kernel
theorem dX12_grundyOf_78 : decode cX12_grundyOf 78 = .ok (.iinc 5 1, 3) := by decide +kernel
theorem dX12_grundyOf_81 : decode cX12_grundyOf 81 = .ok (.goto (-60), 3) := by decide +kernel
theorem dX12_grundyOf_84 : decode cX12_grundyOf 84 = .ok (.iconst 0, 1) := by decide +kernel
theorem dX12_grundyOf_85 : decode cX12_grundyOf 85 = .ok (.istore 5, 2) := by decide +kernel
theorem dX12_grundyOf_87 : decode cX12_grundyOf 87 = .ok (.lload_n 3, 1) := by decide +kernel
theorem dX12_grundyOf_88 : decode cX12_grundyOf 88 = .ok (.iload 5, 2) := by decide +kernel
theorem dX12_grundyOf_90 : decode cX12_grundyOf 90 = .ok (.lshr, 1) := by decide +kernel
theorem dX12_grundyOf_91 : decode cX12_grundyOf 91 = .ok (.lconst 1, 1) := by decide +kernel
theorem dX12_grundyOf_92 : decode cX12_grundyOf 92 = .ok (.land, 1) := by decide +kernel
theorem dX12_grundyOf_93 : decode cX12_grundyOf 93 = .ok (.lconst 1, 1) := by decide +kernel
theorem dX12_grundyOf_94 : decode cX12_grundyOf 94 = .ok (.lcmp, 1) := by decide +kernel
theorem dX12_grundyOf_95 : decode cX12_grundyOf 95 = .ok (.ifCond .ne 9, 3) := by decide +kernel
theorem dX12_grundyOf_98 : decode cX12_grundyOf 98 = .ok (.iinc 5 1, 3) := by decide +kernel
theorem dX12_grundyOf_101 : decode cX12_grundyOf 101 = .ok (.goto (-14), 3) := by decide +kernel
theorem dX12_grundyOf_104 : decode cX12_grundyOf 104 = .ok (.aload_n 0, 1) := by decide +kernel
theorem dX12_grundyOf_105 : decode cX12_grundyOf 105 = .ok (.getfield 75, 3) := by decide +kernel
theorem dX12_grundyOf_108 : decode cX12_grundyOf 108 = .ok (.iload_n 1, 1) := by decide +kernel
theorem dX12_grundyOf_109 : decode cX12_grundyOf 109 = .ok (.iload 5, 2) := by decide +kernel
theorem dX12_grundyOf_111 : decode cX12_grundyOf 111 = .ok (.iastore, 1) := by decide +kernel
theorem dX12_grundyOf_112 : decode cX12_grundyOf 112 = .ok (.iload 5, 2) := by decide +kernel
theorem dX12_grundyOf_114 : decode cX12_grundyOf 114 = .ok (.ireturn, 1) := by decide +kernel
theorem dX12_squaresOf_0 : decode cX12_squaresOf 0 = .ok (.iconst 1, 1) := by decide +kernel
theorem dX12_squaresOf_1 : decode cX12_squaresOf 1 = .ok (.aload_n 0, 1) := by decide +kernel
theorem dX12_squaresOf_2 : decode cX12_squaresOf 2 = .ok (.getfield 20, 3) := by decide +kernel
theorem dX12_squaresOf_5 : decode cX12_squaresOf 5 = .ok (.bipush 7, 2) := by decide +kernel
theorem dX12_squaresOf_7 : decode cX12_squaresOf 7 = .ok (.iload_n 1, 1) := by decide +kernel
theorem dX12_squaresOf_8 : decode cX12_squaresOf 8 = .ok (.iadd, 1) := by decide +kernel
theorem dX12_squaresOf_9 : decode cX12_squaresOf 9 = .ok (.iaload, 1) := by decide +kernel
theorem dX12_squaresOf_10 : decode cX12_squaresOf 10 = .ok (.aload_n 0, 1) := by decide +kernel
theorem dX12_squaresOf_11 : decode cX12_squaresOf 11 = .ok (.getfield 20, 3) := by decide +kernel
theorem dX12_squaresOf_14 : decode cX12_squaresOf 14 = .ok (.bipush 10, 2) := by decide +kernel
theorem dX12_squaresOf_16 : decode cX12_squaresOf 16 = .ok (.iload_n 1, 1) := by decide +kernel
theorem dX12_squaresOf_17 : decode cX12_squaresOf 17 = .ok (.iadd, 1) := by decide +kernel
theorem dX12_squaresOf_18 : decode cX12_squaresOf 18 = .ok (.iaload, 1) := by decide +kernel
theorem dX12_squaresOf_19 : decode cX12_squaresOf 19 = .ok (.imul, 1) := by decide +kernel
theorem dX12_squaresOf_20 : decode cX12_squaresOf 20 = .ok (.ishl, 1) := by decide +kernel
theorem dX12_squaresOf_21 : decode cX12_squaresOf 21 = .ok (.iconst 1, 1) := by decide +kernel
theorem dX12_squaresOf_22 : decode cX12_squaresOf 22 = .ok (.isub, 1) := by decide +kernel
theorem dX12_squaresOf_23 : decode cX12_squaresOf 23 = .ok (.aload_n 0, 1) := by decide +kernel
theorem dX12_squaresOf_24 : decode cX12_squaresOf 24 = .ok (.getfield 20, 3) := by decide +kernel
theorem dX12_squaresOf_27 : decode cX12_squaresOf 27 = .ok (.bipush 13, 2) := by decide +kernel
theorem dX12_squaresOf_29 : decode cX12_squaresOf 29 = .ok (.iload_n 1, 1) := by decide +kernel
theorem dX12_squaresOf_30 : decode cX12_squaresOf 30 = .ok (.iadd, 1) := by decide +kernel
theorem dX12_squaresOf_31 : decode cX12_squaresOf 31 = .ok (.iaload, 1) := by decide +kernel
theorem dX12_squaresOf_32 : decode cX12_squaresOf 32 = .ok (.ishl, 1) := by decide +kernel
theorem dX12_squaresOf_33 : decode cX12_squaresOf 33 = .ok (.ireturn, 1) := by decide +kernel
theorem dX12_heap_0 : decode cX12_heap 0 = .ok (.aload_n 0, 1) := by decide +kernel
theorem dX12_heap_1 : decode cX12_heap 1 = .ok (.invokevirtual 176, 3) := by decide +kernel
theorem dX12_heap_4 : decode cX12_heap 4 = .ok (.aload_n 0, 1) := by decide +kernel
theorem dX12_heap_5 : decode cX12_heap 5 = .ok (.getfield 185, 3) := by decide +kernel
theorem dX12_heap_8 : decode cX12_heap 8 = .ok (.ifCond .eq 16, 3) := by decide +kernel
theorem dX12_heap_11 : decode cX12_heap 11 = .ok (.iload_n 1, 1) := by decide +kernel
theorem dX12_heap_12 : decode cX12_heap 12 = .ok (.iconst (-1), 1) := by decide +kernel
theorem dX12_heap_13 : decode cX12_heap 13 = .ok (.if_icmp .eq 17, 3) := by decide +kernel
theorem dX12_heap_16 : decode cX12_heap 16 = .ok (.aload_n 0, 1) := by decide +kernel
theorem dX12_heap_17 : decode cX12_heap 17 = .ok (.iload_n 1, 1) := by decide +kernel
theorem dX12_heap_18 : decode cX12_heap 18 = .ok (.invokevirtual 308, 3) := by decide +kernel
theorem dX12_heap_21 : decode cX12_heap 21 = .ok (.ifCond .ne 9, 3) := by decide +kernel
theorem dX12_heap_24 : decode cX12_heap 24 = .ok (.aload_n 0, 1) := by decide +kernel
theorem dX12_heap_25 : decode cX12_heap 25 = .ok (.iconst 1, 1) := by decide +kernel
theorem dX12_heap_26 : decode cX12_heap 26 = .ok (.invokevirtual 179, 3) := by decide +kernel
theorem dX12_heap_29 : decode cX12_heap 29 = .ok (.ireturn, 1) := by decide +kernel
theorem dX12_heap_30 : decode cX12_heap 30 = .ok (.aload_n 0, 1) := by decide +kernel
theorem dX12_heap_31 : decode cX12_heap 31 = .ok (.invokevirtual 364, 3) := by decide +kernel
theorem dX12_heap_34 : decode cX12_heap 34 = .ok (.ifCond .ne 9, 3) := by decide +kernel
theorem dX12_heap_37 : decode cX12_heap 37 = .ok (.aload_n 0, 1) := by decide +kernel
theorem dX12_heap_38 : decode cX12_heap 38 = .ok (.iconst 5, 1) := by decide +kernel
theorem dX12_heap_39 : decode cX12_heap 39 = .ok (.invokevirtual 179, 3) := by decide +kernel
theorem dX12_heap_42 : decode cX12_heap 42 = .ok (.ireturn, 1) := by decide +kernel
theorem dX12_heap_43 : decode cX12_heap 43 = .ok (.iconst 0, 1) := by decide +kernel
theorem dX12_heap_44 : decode cX12_heap 44 = .ok (.istore_n 2, 1) := by decide +kernel
theorem dX12_heap_45 : decode cX12_heap 45 = .ok (.iload_n 2, 1) := by decide +kernel
theorem dX12_heap_46 : decode cX12_heap 46 = .ok (.ldc 59, 2) := by decide +kernel
theorem dX12_heap_48 : decode cX12_heap 48 = .ok (.if_icmp .ge 16, 3) := by decide +kernel
theorem dX12_heap_51 : decode cX12_heap 51 = .ok (.aload_n 0, 1) := by decide +kernel
theorem dX12_heap_52 : decode cX12_heap 52 = .ok (.getfield 75, 3) := by decide +kernel
theorem dX12_heap_55 : decode cX12_heap 55 = .ok (.iload_n 2, 1) := by decide +kernel
theorem dX12_heap_56 : decode cX12_heap 56 = .ok (.iconst (-1), 1) := by decide +kernel
theorem dX12_heap_57 : decode cX12_heap 57 = .ok (.iastore, 1) := by decide +kernel
theorem dX12_heap_58 : decode cX12_heap 58 = .ok (.iinc 2 1, 3) := by decide +kernel
theorem dX12_heap_61 : decode cX12_heap 61 = .ok (.goto (-16), 3) := by decide +kernel
theorem dX12_heap_64 : decode cX12_heap 64 = .ok (.aload_n 0, 1) := by decide +kernel
theorem dX12_heap_65 : decode cX12_heap 65 = .ok (.invokevirtual 311, 3) := by decide +kernel
theorem dX12_heap_68 : decode cX12_heap 68 = .ok (.invokestatic 296, 3) := by decide +kernel
theorem dX12_heap_71 : decode cX12_heap 71 = .ok (.istore_n 2, 1) := by decide +kernel
theorem dX12_heap_72 : decode cX12_heap 72 = .ok (.aload_n 0, 1) := by decide +kernel
theorem dX12_heap_73 : decode cX12_heap 73 = .ok (.iload_n 1, 1) := by decide +kernel
theorem dX12_heap_74 : decode cX12_heap 74 = .ok (.iconst (-1), 1) := by decide +kernel
theorem dX12_heap_75 : decode cX12_heap 75 = .ok (.if_icmp .ne 7, 3) := by decide +kernel
theorem dX12_heap_78 : decode cX12_heap 78 = .ok (.iload_n 2, 1) := by decide +kernel
theorem dX12_heap_79 : decode cX12_heap 79 = .ok (.goto 10, 3) := by decide +kernel
theorem dX12_heap_82 : decode cX12_heap 82 = .ok (.iload_n 2, 1) := by decide +kernel
theorem dX12_heap_83 : decode cX12_heap 83 = .ok (.aload_n 0, 1) := by decide +kernel
theorem dX12_heap_84 : decode cX12_heap 84 = .ok (.iload_n 1, 1) := by decide +kernel
theorem dX12_heap_85 : decode cX12_heap 85 = .ok (.invokevirtual 368, 3) := by decide +kernel
theorem dX12_heap_88 : decode cX12_heap 88 = .ok (.iand, 1) := by decide +kernel
theorem dX12_heap_89 : decode cX12_heap 89 = .ok (.iload_n 1, 1) := by decide +kernel
theorem dX12_heap_90 : decode cX12_heap 90 = .ok (.invokevirtual 361, 3) := by decide +kernel
theorem dX12_heap_93 : decode cX12_heap 93 = .ok (.ireturn, 1) := by decide +kernel
theorem dX12_isHalf_0 : decode cX12_isHalf 0 = .ok (.iload_n 2, 1) := by decide +kernel
theorem dX12_isHalf_1 : decode cX12_isHalf 1 = .ok (.aload_n 0, 1) := by decide +kernel
theorem dX12_isHalf_2 : decode cX12_isHalf 2 = .ok (.getfield 20, 3) := by decide +kernel
theorem dX12_isHalf_5 : decode cX12_isHalf 5 = .ok (.bipush 16, 2) := by decide +kernel
theorem dX12_isHalf_7 : decode cX12_isHalf 7 = .ok (.iaload, 1) := by decide +kernel
theorem dX12_isHalf_8 : decode cX12_isHalf 8 = .ok (.ior, 1) := by decide +kernel
theorem dX12_isHalf_9 : decode cX12_isHalf 9 = .ok (.aload_n 0, 1) := by decide +kernel
theorem dX12_isHalf_10 : decode cX12_isHalf 10 = .ok (.iload_n 1, 1) := by decide +kernel
theorem dX12_isHalf_11 : decode cX12_isHalf 11 = .ok (.invokevirtual 368, 3) := by decide +kernel
theorem dX12_isHalf_14 : decode cX12_isHalf 14 = .ok (.iand, 1) := by decide +kernel
theorem dX12_isHalf_15 : decode cX12_isHalf 15 = .ok (.istore_n 3, 1) := by decide +kernel
theorem dX12_isHalf_16 : decode cX12_isHalf 16 = .ok (.aload_n 0, 1) := by decide +kernel
theorem dX12_isHalf_17 : decode cX12_isHalf 17 = .ok (.getfield 20, 3) := by decide +kernel
theorem dX12_isHalf_20 : decode cX12_isHalf 20 = .ok (.bipush 16, 2) := by decide +kernel
theorem dX12_isHalf_22 : decode cX12_isHalf 22 = .ok (.iaload, 1) := by decide +kernel
theorem dX12_isHalf_23 : decode cX12_isHalf 23 = .ok (.aload_n 0, 1) := by decide +kernel
theorem dX12_isHalf_24 : decode cX12_isHalf 24 = .ok (.iload_n 1, 1) := by decide +kernel
theorem dX12_isHalf_25 : decode cX12_isHalf 25 = .ok (.invokevirtual 368, 3) := by decide +kernel
theorem dX12_isHalf_28 : decode cX12_isHalf 28 = .ok (.iand, 1) := by decide +kernel
theorem dX12_isHalf_29 : decode cX12_isHalf 29 = .ok (.istore 4, 2) := by decide +kernel
theorem dX12_isHalf_31 : decode cX12_isHalf 31 = .ok (.aload_n 0, 1) := by decide +kernel
theorem dX12_isHalf_32 : decode cX12_isHalf 32 = .ok (.iload_n 1, 1) := by decide +kernel
theorem dX12_isHalf_33 : decode cX12_isHalf 33 = .ok (.iload_n 3, 1) := by decide +kernel
theorem dX12_isHalf_34 : decode cX12_isHalf 34 = .ok (.invokevirtual 320, 3) := by decide +kernel
theorem dX12_isHalf_37 : decode cX12_isHalf 37 = .ok (.iload_n 3, 1) := by decide +kernel
theorem dX12_isHalf_38 : decode cX12_isHalf 38 = .ok (.if_icmp .ne 19, 3) := by decide +kernel
theorem dX12_isHalf_41 : decode cX12_isHalf 41 = .ok (.aload_n 0, 1) := by decide +kernel
theorem dX12_isHalf_42 : decode cX12_isHalf 42 = .ok (.iload_n 1, 1) := by decide +kernel
theorem dX12_isHalf_43 : decode cX12_isHalf 43 = .ok (.iload 4, 2) := by decide +kernel
theorem dX12_isHalf_45 : decode cX12_isHalf 45 = .ok (.invokevirtual 320, 3) := by decide +kernel
theorem dX12_isHalf_48 : decode cX12_isHalf 48 = .ok (.iload 4, 2) := by decide +kernel
theorem dX12_isHalf_50 : decode cX12_isHalf 50 = .ok (.if_icmp .ne 7, 3) := by decide +kernel
theorem dX12_isHalf_53 : decode cX12_isHalf 53 = .ok (.iconst 1, 1) := by decide +kernel
theorem dX12_isHalf_54 : decode cX12_isHalf 54 = .ok (.goto 4, 3) := by decide +kernel
theorem dX12_isHalf_57 : decode cX12_isHalf 57 = .ok (.iconst 0, 1) := by decide +kernel
theorem dX12_isHalf_58 : decode cX12_isHalf 58 = .ok (.ireturn, 1) := by decide +kernel
theorem dX12_half_0 : decode cX12_half 0 = .ok (.aload_n 0, 1) := by decide +kernel
theorem dX12_half_1 : decode cX12_half 1 = .ok (.invokevirtual 176, 3) := by decide +kernel
theorem dX12_half_4 : decode cX12_half 4 = .ok (.aload_n 0, 1) := by decide +kernel
theorem dX12_half_5 : decode cX12_half 5 = .ok (.iload_n 1, 1) := by decide +kernel
theorem dX12_half_6 : decode cX12_half 6 = .ok (.invokevirtual 308, 3) := by decide +kernel
theorem dX12_half_9 : decode cX12_half 9 = .ok (.ifCond .eq 26, 3) := by decide +kernel
theorem dX12_half_12 : decode cX12_half 12 = .ok (.aload_n 0, 1) := by decide +kernel
theorem dX12_half_13 : decode cX12_half 13 = .ok (.iload_n 1, 1) := by decide +kernel
theorem dX12_half_14 : decode cX12_half 14 = .ok (.aload_n 0, 1) := by decide +kernel
theorem dX12_half_15 : decode cX12_half 15 = .ok (.invokevirtual 311, 3) := by decide +kernel
theorem dX12_half_18 : decode cX12_half 18 = .ok (.invokestatic 296, 3) := by decide +kernel
theorem dX12_half_21 : decode cX12_half 21 = .ok (.invokevirtual 371, 3) := by decide +kernel
theorem dX12_half_24 : decode cX12_half 24 = .ok (.ifCond .eq 7, 3) := by decide +kernel
theorem dX12_half_27 : decode cX12_half 27 = .ok (.iconst 1, 1) := by decide +kernel
theorem dX12_half_28 : decode cX12_half 28 = .ok (.goto 12, 3) := by decide +kernel
theorem dX12_half_31 : decode cX12_half 31 = .ok (.iconst 0, 1) := by decide +kernel
theorem dX12_half_32 : decode cX12_half 32 = .ok (.goto 8, 3) := by decide +kernel
theorem dX12_half_35 : decode cX12_half 35 = .ok (.aload_n 0, 1) := by decide +kernel
theorem dX12_half_36 : decode cX12_half 36 = .ok (.iconst 1, 1) := by decide +kernel
theorem dX12_half_37 : decode cX12_half 37 = .ok (.invokevirtual 179, 3) := by decide +kernel
theorem dX12_half_40 : decode cX12_half 40 = .ok (.ireturn, 1) := by decide +kernel
theorem dX12_isAnswered_0 : decode cX12_isAnswered 0 = .ok (.iconst 0, 1) := by decide +kernel
theorem dX12_isAnswered_1 : decode cX12_isAnswered 1 = .ok (.istore_n 2, 1) := by decide +kernel
theorem dX12_isAnswered_2 : decode cX12_isAnswered 2 = .ok (.iload_n 2, 1) := by decide +kernel
theorem dX12_isAnswered_3 : decode cX12_isAnswered 3 = .ok (.aload_n 0, 1) := by decide +kernel
theorem dX12_isAnswered_4 : decode cX12_isAnswered 4 = .ok (.getfield 205, 3) := by decide +kernel
theorem dX12_isAnswered_7 : decode cX12_isAnswered 7 = .ok (.if_icmp .ge 75, 3) := by decide +kernel
theorem dX12_isAnswered_10 : decode cX12_isAnswered 10 = .ok (.aload_n 0, 1) := by decide +kernel
theorem dX12_isAnswered_11 : decode cX12_isAnswered 11 = .ok (.iload_n 1, 1) := by decide +kernel
theorem dX12_isAnswered_12 : decode cX12_isAnswered 12 = .ok (.iload_n 2, 1) := by decide +kernel
theorem dX12_isAnswered_13 : decode cX12_isAnswered 13 = .ok (.invokevirtual 302, 3) := by decide +kernel
theorem dX12_isAnswered_16 : decode cX12_isAnswered 16 = .ok (.ifCond .ne 6, 3) := by decide +kernel
theorem dX12_isAnswered_19 : decode cX12_isAnswered 19 = .ok (.goto 57, 3) := by decide +kernel
theorem dX12_isAnswered_22 : decode cX12_isAnswered 22 = .ok (.aload_n 0, 1) := by decide +kernel
theorem dX12_isAnswered_23 : decode cX12_isAnswered 23 = .ok (.iload_n 2, 1) := by decide +kernel
theorem dX12_isAnswered_24 : decode cX12_isAnswered 24 = .ok (.invokevirtual 323, 3) := by decide +kernel
theorem dX12_isAnswered_27 : decode cX12_isAnswered 27 = .ok (.istore_n 3, 1) := by decide +kernel
theorem dX12_isAnswered_28 : decode cX12_isAnswered 28 = .ok (.iload_n 3, 1) := by decide +kernel
theorem dX12_isAnswered_29 : decode cX12_isAnswered 29 = .ok (.ifCond .lt 45, 3) := by decide +kernel
theorem dX12_isAnswered_32 : decode cX12_isAnswered 32 = .ok (.aload_n 0, 1) := by decide +kernel
theorem dX12_isAnswered_33 : decode cX12_isAnswered 33 = .ok (.getfield 53, 3) := by decide +kernel
theorem dX12_isAnswered_36 : decode cX12_isAnswered 36 = .ok (.iload_n 3, 1) := by decide +kernel
theorem dX12_isAnswered_37 : decode cX12_isAnswered 37 = .ok (.iaload, 1) := by decide +kernel
theorem dX12_isAnswered_38 : decode cX12_isAnswered 38 = .ok (.aload_n 0, 1) := by decide +kernel
theorem dX12_isAnswered_39 : decode cX12_isAnswered 39 = .ok (.getfield 53, 3) := by decide +kernel
theorem dX12_isAnswered_42 : decode cX12_isAnswered 42 = .ok (.iload_n 2, 1) := by decide +kernel
theorem dX12_isAnswered_43 : decode cX12_isAnswered 43 = .ok (.iaload, 1) := by decide +kernel
theorem dX12_isAnswered_44 : decode cX12_isAnswered 44 = .ok (.iand, 1) := by decide +kernel
theorem dX12_isAnswered_45 : decode cX12_isAnswered 45 = .ok (.ifCond .ne 29, 3) := by decide +kernel
theorem dX12_isAnswered_48 : decode cX12_isAnswered 48 = .ok (.aload_n 0, 1) := by decide +kernel
theorem dX12_isAnswered_49 : decode cX12_isAnswered 49 = .ok (.getfield 20, 3) := by decide +kernel
theorem dX12_isAnswered_52 : decode cX12_isAnswered 52 = .ok (.iconst 2, 1) := by decide +kernel
theorem dX12_isAnswered_53 : decode cX12_isAnswered 53 = .ok (.iaload, 1) := by decide +kernel
theorem dX12_isAnswered_54 : decode cX12_isAnswered 54 = .ok (.iconst 1, 1) := by decide +kernel
theorem dX12_isAnswered_55 : decode cX12_isAnswered 55 = .ok (.if_icmp .ne 21, 3) := by decide +kernel
theorem dX12_isAnswered_58 : decode cX12_isAnswered 58 = .ok (.aload_n 0, 1) := by decide +kernel
theorem dX12_isAnswered_59 : decode cX12_isAnswered 59 = .ok (.getfield 56, 3) := by decide +kernel
theorem dX12_isAnswered_62 : decode cX12_isAnswered 62 = .ok (.iload_n 2, 1) := by decide +kernel
theorem dX12_isAnswered_63 : decode cX12_isAnswered 63 = .ok (.iaload, 1) := by decide +kernel
theorem dX12_isAnswered_64 : decode cX12_isAnswered 64 = .ok (.aload_n 0, 1) := by decide +kernel
theorem dX12_isAnswered_65 : decode cX12_isAnswered 65 = .ok (.getfield 53, 3) := by decide +kernel
theorem dX12_isAnswered_68 : decode cX12_isAnswered 68 = .ok (.iload_n 3, 1) := by decide +kernel
theorem dX12_isAnswered_69 : decode cX12_isAnswered 69 = .ok (.iaload, 1) := by decide +kernel
theorem dX12_isAnswered_70 : decode cX12_isAnswered 70 = .ok (.iand, 1) := by decide +kernel
theorem dX12_isAnswered_71 : decode cX12_isAnswered 71 = .ok (.ifCond .eq 5, 3) := by decide +kernel
theorem dX12_isAnswered_74 : decode cX12_isAnswered 74 = .ok (.iconst 0, 1) := by decide +kernel
theorem dX12_isAnswered_75 : decode cX12_isAnswered 75 = .ok (.ireturn, 1) := by decide +kernel
theorem dX12_isAnswered_76 : decode cX12_isAnswered 76 = .ok (.iinc 2 1, 3) := by decide +kernel
theorem dX12_isAnswered_79 : decode cX12_isAnswered 79 = .ok (.goto (-77), 3) := by decide +kernel
theorem dX12_isAnswered_82 : decode cX12_isAnswered 82 = .ok (.iconst 1, 1) := by decide +kernel
theorem dX12_isAnswered_83 : decode cX12_isAnswered 83 = .ok (.ireturn, 1) := by decide +kernel
theorem dX12_byAcross_0 : decode cX12_byAcross 0 = .ok (.aload_n 0, 1) := by decide +kernel
theorem dX12_byAcross_1 : decode cX12_byAcross 1 = .ok (.invokevirtual 176, 3) := by decide +kernel
theorem dX12_byAcross_4 : decode cX12_byAcross 4 = .ok (.aload_n 0, 1) := by decide +kernel
theorem dX12_byAcross_5 : decode cX12_byAcross 5 = .ok (.getfield 185, 3) := by decide +kernel
theorem dX12_byAcross_8 : decode cX12_byAcross 8 = .ok (.ifCond .ne 9, 3) := by decide +kernel
theorem dX12_byAcross_11 : decode cX12_byAcross 11 = .ok (.aload_n 0, 1) := by decide +kernel
theorem dX12_byAcross_12 : decode cX12_byAcross 12 = .ok (.iconst 1, 1) := by decide +kernel
theorem dX12_byAcross_13 : decode cX12_byAcross 13 = .ok (.invokevirtual 179, 3) := by decide +kernel
theorem dX12_byAcross_16 : decode cX12_byAcross 16 = .ok (.ireturn, 1) := by decide +kernel
theorem dX12_byAcross_17 : decode cX12_byAcross 17 = .ok (.aload_n 0, 1) := by decide +kernel
theorem dX12_byAcross_18 : decode cX12_byAcross 18 = .ok (.invokevirtual 311, 3) := by decide +kernel
theorem dX12_byAcross_21 : decode cX12_byAcross 21 = .ok (.istore_n 1, 1) := by decide +kernel
theorem dX12_byAcross_22 : decode cX12_byAcross 22 = .ok (.aload_n 0, 1) := by decide +kernel
theorem dX12_byAcross_23 : decode cX12_byAcross 23 = .ok (.invokevirtual 364, 3) := by decide +kernel
theorem dX12_byAcross_26 : decode cX12_byAcross 26 = .ok (.istore_n 2, 1) := by decide +kernel
theorem dX12_byAcross_27 : decode cX12_byAcross 27 = .ok (.iconst 0, 1) := by decide +kernel
theorem dX12_byAcross_28 : decode cX12_byAcross 28 = .ok (.istore_n 3, 1) := by decide +kernel
theorem dX12_byAcross_29 : decode cX12_byAcross 29 = .ok (.iload_n 3, 1) := by decide +kernel
theorem dX12_byAcross_30 : decode cX12_byAcross 30 = .ok (.aload_n 0, 1) := by decide +kernel
theorem dX12_byAcross_31 : decode cX12_byAcross 31 = .ok (.getfield 20, 3) := by decide +kernel
theorem dX12_byAcross_34 : decode cX12_byAcross 34 = .ok (.iconst 3, 1) := by decide +kernel
theorem dX12_byAcross_35 : decode cX12_byAcross 35 = .ok (.iaload, 1) := by decide +kernel
theorem dX12_byAcross_36 : decode cX12_byAcross 36 = .ok (.if_icmp .ge 31, 3) := by decide +kernel
theorem dX12_byAcross_39 : decode cX12_byAcross 39 = .ok (.iload_n 2, 1) := by decide +kernel
theorem dX12_byAcross_40 : decode cX12_byAcross 40 = .ok (.ifCond .eq 19, 3) := by decide +kernel
theorem dX12_byAcross_43 : decode cX12_byAcross 43 = .ok (.aload_n 0, 1) := by decide +kernel
theorem dX12_byAcross_44 : decode cX12_byAcross 44 = .ok (.iload_n 3, 1) := by decide +kernel
theorem dX12_byAcross_45 : decode cX12_byAcross 45 = .ok (.iload_n 1, 1) := by decide +kernel
theorem dX12_byAcross_46 : decode cX12_byAcross 46 = .ok (.invokestatic 296, 3) := by decide +kernel
theorem dX12_byAcross_49 : decode cX12_byAcross 49 = .ok (.invokevirtual 371, 3) := by decide +kernel
theorem dX12_byAcross_52 : decode cX12_byAcross 52 = .ok (.ifCond .eq 7, 3) := by decide +kernel
theorem dX12_byAcross_55 : decode cX12_byAcross 55 = .ok (.iconst 1, 1) := by decide +kernel
theorem dX12_byAcross_56 : decode cX12_byAcross 56 = .ok (.goto 4, 3) := by decide +kernel
theorem dX12_byAcross_59 : decode cX12_byAcross 59 = .ok (.iconst 0, 1) := by decide +kernel
theorem dX12_byAcross_60 : decode cX12_byAcross 60 = .ok (.istore_n 2, 1) := by decide +kernel
theorem dX12_byAcross_61 : decode cX12_byAcross 61 = .ok (.iinc 3 1, 3) := by decide +kernel
theorem dX12_byAcross_64 : decode cX12_byAcross 64 = .ok (.goto (-35), 3) := by decide +kernel
theorem dX12_byAcross_67 : decode cX12_byAcross 67 = .ok (.iload_n 2, 1) := by decide +kernel
theorem dX12_byAcross_68 : decode cX12_byAcross 68 = .ok (.ifCond .ne 5, 3) := by decide +kernel
theorem dX12_byAcross_71 : decode cX12_byAcross 71 = .ok (.iconst 0, 1) := by decide +kernel
theorem dX12_byAcross_72 : decode cX12_byAcross 72 = .ok (.ireturn, 1) := by decide +kernel
theorem dX12_byAcross_73 : decode cX12_byAcross 73 = .ok (.aload_n 0, 1) := by decide +kernel
theorem dX12_byAcross_74 : decode cX12_byAcross 74 = .ok (.iload_n 1, 1) := by decide +kernel
theorem dX12_byAcross_75 : decode cX12_byAcross 75 = .ok (.invokevirtual 374, 3) := by decide +kernel
theorem dX12_byAcross_78 : decode cX12_byAcross 78 = .ok (.ifCond .eq 5, 3) := by decide +kernel
theorem dX12_byAcross_81 : decode cX12_byAcross 81 = .ok (.iconst 2, 1) := by decide +kernel
theorem dX12_byAcross_82 : decode cX12_byAcross 82 = .ok (.ireturn, 1) := by decide +kernel
theorem dX12_byAcross_83 : decode cX12_byAcross 83 = .ok (.iconst 0, 1) := by decide +kernel
theorem dX12_byAcross_84 : decode cX12_byAcross 84 = .ok (.istore_n 3, 1) := by decide +kernel
theorem dX12_byAcross_85 : decode cX12_byAcross 85 = .ok (.iload_n 3, 1) := by decide +kernel
theorem dX12_byAcross_86 : decode cX12_byAcross 86 = .ok (.aload_n 0, 1) := by decide +kernel
theorem dX12_byAcross_87 : decode cX12_byAcross 87 = .ok (.getfield 205, 3) := by decide +kernel
theorem dX12_byAcross_90 : decode cX12_byAcross 90 = .ok (.if_icmp .ge 42, 3) := by decide +kernel
theorem dX12_byAcross_93 : decode cX12_byAcross 93 = .ok (.aload_n 0, 1) := by decide +kernel
theorem dX12_byAcross_94 : decode cX12_byAcross 94 = .ok (.iload_n 1, 1) := by decide +kernel
theorem dX12_byAcross_95 : decode cX12_byAcross 95 = .ok (.iload_n 3, 1) := by decide +kernel
theorem dX12_byAcross_96 : decode cX12_byAcross 96 = .ok (.invokevirtual 302, 3) := by decide +kernel
theorem dX12_byAcross_99 : decode cX12_byAcross 99 = .ok (.ifCond .eq 27, 3) := by decide +kernel
theorem dX12_byAcross_102 : decode cX12_byAcross 102 = .ok (.aload_n 0, 1) := by decide +kernel
theorem dX12_byAcross_103 : decode cX12_byAcross 103 = .ok (.iload_n 3, 1) := by decide +kernel
theorem dX12_byAcross_104 : decode cX12_byAcross 104 = .ok (.invokevirtual 323, 3) := by decide +kernel
theorem dX12_byAcross_107 : decode cX12_byAcross 107 = .ok (.iload_n 3, 1) := by decide +kernel
theorem dX12_byAcross_108 : decode cX12_byAcross 108 = .ok (.if_icmp .ne 18, 3) := by decide +kernel
theorem dX12_byAcross_111 : decode cX12_byAcross 111 = .ok (.aload_n 0, 1) := by decide +kernel
theorem dX12_byAcross_112 : decode cX12_byAcross 112 = .ok (.aload_n 0, 1) := by decide +kernel
theorem dX12_byAcross_113 : decode cX12_byAcross 113 = .ok (.iload_n 1, 1) := by decide +kernel
theorem dX12_byAcross_114 : decode cX12_byAcross 114 = .ok (.iload_n 3, 1) := by decide +kernel
theorem dX12_byAcross_115 : decode cX12_byAcross 115 = .ok (.invokevirtual 331, 3) := by decide +kernel
theorem dX12_byAcross_118 : decode cX12_byAcross 118 = .ok (.invokevirtual 374, 3) := by decide +kernel
theorem dX12_byAcross_121 : decode cX12_byAcross 121 = .ok (.ifCond .eq 5, 3) := by decide +kernel
theorem dX12_byAcross_124 : decode cX12_byAcross 124 = .ok (.iconst 1, 1) := by decide +kernel
theorem dX12_byAcross_125 : decode cX12_byAcross 125 = .ok (.ireturn, 1) := by decide +kernel
theorem dX12_byAcross_126 : decode cX12_byAcross 126 = .ok (.iinc 3 1, 3) := by decide +kernel
theorem dX12_byAcross_129 : decode cX12_byAcross 129 = .ok (.goto (-44), 3) := by decide +kernel
theorem dX12_byAcross_132 : decode cX12_byAcross 132 = .ok (.iconst 0, 1) := by decide +kernel
theorem dX12_byAcross_133 : decode cX12_byAcross 133 = .ok (.ireturn, 1) := by decide +kernel
theorem dX12_elbow_0 : decode cX12_elbow 0 = .ok (.aload_n 0, 1) := by decide +kernel
theorem dX12_elbow_1 : decode cX12_elbow 1 = .ok (.invokevirtual 176, 3) := by decide +kernel
theorem dX12_elbow_4 : decode cX12_elbow 4 = .ok (.aload_n 0, 1) := by decide +kernel
theorem dX12_elbow_5 : decode cX12_elbow 5 = .ok (.getfield 185, 3) := by decide +kernel
theorem dX12_elbow_8 : decode cX12_elbow 8 = .ok (.ifCond .ne 9, 3) := by decide +kernel
theorem dX12_elbow_11 : decode cX12_elbow 11 = .ok (.aload_n 0, 1) := by decide +kernel
theorem dX12_elbow_12 : decode cX12_elbow 12 = .ok (.iconst 1, 1) := by decide +kernel
theorem dX12_elbow_13 : decode cX12_elbow 13 = .ok (.invokevirtual 179, 3) := by decide +kernel
theorem dX12_elbow_16 : decode cX12_elbow 16 = .ok (.ireturn, 1) := by decide +kernel
theorem dX12_elbow_17 : decode cX12_elbow 17 = .ok (.aload_n 0, 1) := by decide +kernel
theorem dX12_elbow_18 : decode cX12_elbow 18 = .ok (.invokevirtual 311, 3) := by decide +kernel
theorem dX12_elbow_21 : decode cX12_elbow 21 = .ok (.istore_n 1, 1) := by decide +kernel
theorem dX12_elbow_22 : decode cX12_elbow 22 = .ok (.iconst 0, 1) := by decide +kernel
theorem dX12_elbow_23 : decode cX12_elbow 23 = .ok (.istore_n 2, 1) := by decide +kernel
theorem dX12_elbow_24 : decode cX12_elbow 24 = .ok (.iload_n 2, 1) := by decide +kernel
theorem dX12_elbow_25 : decode cX12_elbow 25 = .ok (.aload_n 0, 1) := by decide +kernel
theorem dX12_elbow_26 : decode cX12_elbow 26 = .ok (.getfield 20, 3) := by decide +kernel
theorem dX12_elbow_29 : decode cX12_elbow 29 = .ok (.iconst 5, 1) := by decide +kernel
theorem dX12_elbow_30 : decode cX12_elbow 30 = .ok (.iaload, 1) := by decide +kernel
theorem dX12_elbow_31 : decode cX12_elbow 31 = .ok (.if_icmp .ge 47, 3) := by decide +kernel
theorem dX12_elbow_34 : decode cX12_elbow 34 = .ok (.iload_n 1, 1) := by decide +kernel
theorem dX12_elbow_35 : decode cX12_elbow 35 = .ok (.invokestatic 296, 3) := by decide +kernel
theorem dX12_elbow_38 : decode cX12_elbow 38 = .ok (.aload_n 0, 1) := by decide +kernel
theorem dX12_elbow_39 : decode cX12_elbow 39 = .ok (.getfield 20, 3) := by decide +kernel
theorem dX12_elbow_42 : decode cX12_elbow 42 = .ok (.bipush 16, 2) := by decide +kernel
theorem dX12_elbow_44 : decode cX12_elbow 44 = .ok (.iaload, 1) := by decide +kernel
theorem dX12_elbow_45 : decode cX12_elbow 45 = .ok (.ior, 1) := by decide +kernel
theorem dX12_elbow_46 : decode cX12_elbow 46 = .ok (.iload_n 2, 1) := by decide +kernel
theorem dX12_elbow_47 : decode cX12_elbow 47 = .ok (.invokestatic 251, 3) := by decide +kernel
theorem dX12_elbow_50 : decode cX12_elbow 50 = .ok (.ifCond .ne 22, 3) := by decide +kernel
theorem dX12_elbow_53 : decode cX12_elbow 53 = .ok (.aload_n 0, 1) := by decide +kernel
theorem dX12_elbow_54 : decode cX12_elbow 54 = .ok (.iload_n 1, 1) := by decide +kernel
theorem dX12_elbow_55 : decode cX12_elbow 55 = .ok (.iconst 1, 1) := by decide +kernel
theorem dX12_elbow_56 : decode cX12_elbow 56 = .ok (.iload_n 2, 1) := by decide +kernel
theorem dX12_elbow_57 : decode cX12_elbow 57 = .ok (.ishl, 1) := by decide +kernel
theorem dX12_elbow_58 : decode cX12_elbow 58 = .ok (.ior, 1) := by decide +kernel
theorem dX12_elbow_59 : decode cX12_elbow 59 = .ok (.invokevirtual 334, 3) := by decide +kernel
theorem dX12_elbow_62 : decode cX12_elbow 62 = .ok (.aload_n 0, 1) := by decide +kernel
theorem dX12_elbow_63 : decode cX12_elbow 63 = .ok (.iload_n 1, 1) := by decide +kernel
theorem dX12_elbow_64 : decode cX12_elbow 64 = .ok (.invokevirtual 334, 3) := by decide +kernel
theorem dX12_elbow_67 : decode cX12_elbow 67 = .ok (.if_icmp .eq 5, 3) := by decide +kernel
theorem dX12_elbow_70 : decode cX12_elbow 70 = .ok (.iload_n 2, 1) := by decide +kernel
theorem dX12_elbow_71 : decode cX12_elbow 71 = .ok (.ireturn, 1) := by decide +kernel
theorem dX12_elbow_72 : decode cX12_elbow 72 = .ok (.iinc 2 1, 3) := by decide +kernel
theorem dX12_elbow_75 : decode cX12_elbow 75 = .ok (.goto (-51), 3) := by decide +kernel
theorem dX12_elbow_78 : decode cX12_elbow 78 = .ok (.bipush (-2), 2) := by decide +kernel
theorem dX12_elbow_80 : decode cX12_elbow 80 = .ok (.ireturn, 1) := by decide +kernel
theorem dX12_fewest_0 : decode cX12_fewest 0 = .ok (.aload_n 0, 1) := by decide +kernel
theorem dX12_fewest_1 : decode cX12_fewest 1 = .ok (.invokevirtual 176, 3) := by decide +kernel
theorem dX12_fewest_4 : decode cX12_fewest 4 = .ok (.aload_n 0, 1) := by decide +kernel
theorem dX12_fewest_5 : decode cX12_fewest 5 = .ok (.getfield 185, 3) := by decide +kernel
theorem dX12_fewest_8 : decode cX12_fewest 8 = .ok (.ifCond .eq 14, 3) := by decide +kernel
theorem dX12_fewest_11 : decode cX12_fewest 11 = .ok (.aload_n 0, 1) := by decide +kernel
theorem dX12_fewest_12 : decode cX12_fewest 12 = .ok (.aload_n 0, 1) := by decide +kernel
theorem dX12_fewest_13 : decode cX12_fewest 13 = .ok (.invokevirtual 311, 3) := by decide +kernel
theorem dX12_fewest_16 : decode cX12_fewest 16 = .ok (.invokevirtual 345, 3) := by decide +kernel
theorem dX12_fewest_19 : decode cX12_fewest 19 = .ok (.goto 8, 3) := by decide +kernel
theorem dX12_fewest_22 : decode cX12_fewest 22 = .ok (.aload_n 0, 1) := by decide +kernel
theorem dX12_fewest_23 : decode cX12_fewest 23 = .ok (.iconst 1, 1) := by decide +kernel
theorem dX12_fewest_24 : decode cX12_fewest 24 = .ok (.invokevirtual 179, 3) := by decide +kernel
theorem dX12_fewest_27 : decode cX12_fewest 27 = .ok (.ireturn, 1) := by decide +kernel
theorem dX12_most_0 : decode cX12_most 0 = .ok (.aload_n 0, 1) := by decide +kernel
theorem dX12_most_1 : decode cX12_most 1 = .ok (.invokevirtual 176, 3) := by decide +kernel
theorem dX12_most_4 : decode cX12_most 4 = .ok (.aload_n 0, 1) := by decide +kernel
theorem dX12_most_5 : decode cX12_most 5 = .ok (.getfield 185, 3) := by decide +kernel
theorem dX12_most_8 : decode cX12_most 8 = .ok (.ifCond .eq 14, 3) := by decide +kernel
theorem dX12_most_11 : decode cX12_most 11 = .ok (.aload_n 0, 1) := by decide +kernel
theorem dX12_most_12 : decode cX12_most 12 = .ok (.aload_n 0, 1) := by decide +kernel
theorem dX12_most_13 : decode cX12_most 13 = .ok (.invokevirtual 311, 3) := by decide +kernel
theorem dX12_most_16 : decode cX12_most 16 = .ok (.invokevirtual 348, 3) := by decide +kernel
theorem dX12_most_19 : decode cX12_most 19 = .ok (.goto 8, 3) := by decide +kernel
theorem dX12_most_22 : decode cX12_most 22 = .ok (.aload_n 0, 1) := by decide +kernel
theorem dX12_most_23 : decode cX12_most 23 = .ok (.iconst 1, 1) := by decide +kernel
theorem dX12_most_24 : decode cX12_most 24 = .ok (.invokevirtual 179, 3) := by decide +kernel
theorem dX12_most_27 : decode cX12_most 27 = .ok (.ireturn, 1) := by decide +kernel
theorem dX12_lot_0 : decode cX12_lot 0 = .ok (.aload_n 0, 1) := by decide +kernel
theorem dX12_lot_1 : decode cX12_lot 1 = .ok (.invokevirtual 176, 3) := by decide +kernel
theorem dX12_lot_4 : decode cX12_lot 4 = .ok (.aload_n 0, 1) := by decide +kernel
theorem dX12_lot_5 : decode cX12_lot 5 = .ok (.getfield 185, 3) := by decide +kernel
theorem dX12_lot_8 : decode cX12_lot 8 = .ok (.ifCond .eq 14, 3) := by decide +kernel
theorem dX12_lot_11 : decode cX12_lot 11 = .ok (.aload_n 0, 1) := by decide +kernel
theorem dX12_lot_12 : decode cX12_lot 12 = .ok (.aload_n 0, 1) := by decide +kernel
theorem dX12_lot_13 : decode cX12_lot 13 = .ok (.invokevirtual 311, 3) := by decide +kernel
theorem dX12_lot_16 : decode cX12_lot 16 = .ok (.invokevirtual 352, 3) := by decide +kernel
theorem dX12_lot_19 : decode cX12_lot 19 = .ok (.goto 8, 3) := by decide +kernel
theorem dX12_lot_22 : decode cX12_lot 22 = .ok (.aload_n 0, 1) := by decide +kernel
theorem dX12_lot_23 : decode cX12_lot 23 = .ok (.iconst 1, 1) := by decide +kernel
theorem dX12_lot_24 : decode cX12_lot 24 = .ok (.invokevirtual 179, 3) := by decide +kernel
theorem dX12_lot_27 : decode cX12_lot 27 = .ok (.ireturn, 1) := by decide +kernel
theorem dX12_laySizes_0 : decode cX12_laySizes 0 = .ok (.iconst 0, 1) := by decide +kernel
theorem dX12_laySizes_1 : decode cX12_laySizes 1 = .ok (.istore_n 2, 1) := by decide +kernel
theorem dX12_laySizes_2 : decode cX12_laySizes 2 = .ok (.iload_n 2, 1) := by decide +kernel
theorem dX12_laySizes_3 : decode cX12_laySizes 3 = .ok (.sipush 201, 3) := by decide +kernel
theorem dX12_laySizes_6 : decode cX12_laySizes 6 = .ok (.if_icmp .ge 134, 3) := by decide +kernel
theorem dX12_laySizes_9 : decode cX12_laySizes 9 = .ok (.lconst 0, 1) := by decide +kernel
theorem dX12_laySizes_10 : decode cX12_laySizes 10 = .ok (.lstore_n 3, 1) := by decide +kernel
theorem dX12_laySizes_11 : decode cX12_laySizes 11 = .ok (.lconst 0, 1) := by decide +kernel
theorem dX12_laySizes_12 : decode cX12_laySizes 12 = .ok (.lstore 5, 2) := by decide +kernel
theorem dX12_laySizes_14 : decode cX12_laySizes 14 = .ok (.iconst 0, 1) := by decide +kernel
theorem dX12_laySizes_15 : decode cX12_laySizes 15 = .ok (.istore 7, 2) := by decide +kernel
theorem dX12_laySizes_17 : decode cX12_laySizes 17 = .ok (.iload 7, 2) := by decide +kernel
theorem dX12_laySizes_19 : decode cX12_laySizes 19 = .ok (.iload_n 1, 1) := by decide +kernel
theorem dX12_laySizes_20 : decode cX12_laySizes 20 = .ok (.iadd, 1) := by decide +kernel
theorem dX12_laySizes_21 : decode cX12_laySizes 21 = .ok (.iload_n 2, 1) := by decide +kernel
theorem dX12_laySizes_22 : decode cX12_laySizes 22 = .ok (.if_icmp .gt 69, 3) := by decide +kernel
theorem dX12_laySizes_25 : decode cX12_laySizes 25 = .ok (.iconst 2, 1) := by decide +kernel
theorem dX12_laySizes_26 : decode cX12_laySizes 26 = .ok (.iload 7, 2) := by decide +kernel
theorem dX12_laySizes_28 : decode cX12_laySizes 28 = .ok (.imul, 1) := by decide +kernel
theorem dX12_laySizes_29 : decode cX12_laySizes 29 = .ok (.iload_n 2, 1) := by decide +kernel
theorem dX12_laySizes_30 : decode cX12_laySizes 30 = .ok (.iload_n 1, 1) := by decide +kernel
theorem dX12_laySizes_31 : decode cX12_laySizes 31 = .ok (.isub, 1) := by decide +kernel
theorem dX12_laySizes_32 : decode cX12_laySizes 32 = .ok (.if_icmp .gt 59, 3) := by decide +kernel
theorem dX12_laySizes_35 : decode cX12_laySizes 35 = .ok (.aload_n 0, 1) := by decide +kernel
theorem dX12_laySizes_36 : decode cX12_laySizes 36 = .ok (.getfield 82, 3) := by decide +kernel
theorem dX12_laySizes_39 : decode cX12_laySizes 39 = .ok (.iload 7, 2) := by decide +kernel
theorem dX12_laySizes_41 : decode cX12_laySizes 41 = .ok (.iaload, 1) := by decide +kernel
theorem dX12_laySizes_42 : decode cX12_laySizes 42 = .ok (.aload_n 0, 1) := by decide +kernel
theorem dX12_laySizes_43 : decode cX12_laySizes 43 = .ok (.getfield 82, 3) := by decide +kernel
theorem dX12_laySizes_46 : decode cX12_laySizes 46 = .ok (.iload_n 2, 1) := by decide +kernel
theorem dX12_laySizes_47 : decode cX12_laySizes 47 = .ok (.iload_n 1, 1) := by decide +kernel
theorem dX12_laySizes_48 : decode cX12_laySizes 48 = .ok (.isub, 1) := by decide +kernel
theorem dX12_laySizes_49 : decode cX12_laySizes 49 = .ok (.iload 7, 2) := by decide +kernel
theorem dX12_laySizes_51 : decode cX12_laySizes 51 = .ok (.isub, 1) := by decide +kernel
theorem dX12_laySizes_52 : decode cX12_laySizes 52 = .ok (.iaload, 1) := by decide +kernel
theorem dX12_laySizes_53 : decode cX12_laySizes 53 = .ok (.ixor, 1) := by decide +kernel
theorem dX12_laySizes_54 : decode cX12_laySizes 54 = .ok (.istore 8, 2) := by decide +kernel
theorem dX12_laySizes_56 : decode cX12_laySizes 56 = .ok (.iload 8, 2) := by decide +kernel
theorem dX12_laySizes_58 : decode cX12_laySizes 58 = .ok (.bipush 64, 2) := by decide +kernel
theorem dX12_laySizes_60 : decode cX12_laySizes 60 = .ok (.if_icmp .ge 13, 3) := by decide +kernel
theorem dX12_laySizes_63 : decode cX12_laySizes 63 = .ok (.lload_n 3, 1) := by decide +kernel
theorem dX12_laySizes_64 : decode cX12_laySizes 64 = .ok (.lconst 1, 1) := by decide +kernel
theorem dX12_laySizes_65 : decode cX12_laySizes 65 = .ok (.iload 8, 2) := by decide +kernel
theorem dX12_laySizes_67 : decode cX12_laySizes 67 = .ok (.lshl, 1) := by decide +kernel
theorem dX12_laySizes_68 : decode cX12_laySizes 68 = .ok (.lor, 1) := by decide +kernel
theorem dX12_laySizes_69 : decode cX12_laySizes 69 = .ok (.lstore_n 3, 1) := by decide +kernel
theorem dX12_laySizes_70 : decode cX12_laySizes 70 = .ok (.goto 15, 3) := by decide +kernel
theorem dX12_laySizes_73 : decode cX12_laySizes 73 = .ok (.lload 5, 2) := by decide +kernel
theorem dX12_laySizes_75 : decode cX12_laySizes 75 = .ok (.lconst 1, 1) := by decide +kernel
theorem dX12_laySizes_76 : decode cX12_laySizes 76 = .ok (.iload 8, 2) := by decide +kernel
theorem dX12_laySizes_78 : decode cX12_laySizes 78 = .ok (.bipush 64, 2) := by decide +kernel
theorem dX12_laySizes_80 : decode cX12_laySizes 80 = .ok (.isub, 1) := by decide +kernel
theorem dX12_laySizes_81 : decode cX12_laySizes 81 = .ok (.lshl, 1) := by decide +kernel
theorem dX12_laySizes_82 : decode cX12_laySizes 82 = .ok (.lor, 1) := by decide +kernel
theorem dX12_laySizes_83 : decode cX12_laySizes 83 = .ok (.lstore 5, 2) := by decide +kernel
theorem dX12_laySizes_85 : decode cX12_laySizes 85 = .ok (.iinc 7 1, 3) := by decide +kernel
theorem dX12_laySizes_88 : decode cX12_laySizes 88 = .ok (.goto (-71), 3) := by decide +kernel
theorem dX12_laySizes_91 : decode cX12_laySizes 91 = .ok (.iconst 0, 1) := by decide +kernel
theorem dX12_laySizes_92 : decode cX12_laySizes 92 = .ok (.istore 7, 2) := by decide +kernel
theorem dX12_laySizes_94 : decode cX12_laySizes 94 = .ok (.iload 7, 2) := by decide +kernel
theorem dX12_laySizes_96 : decode cX12_laySizes 96 = .ok (.bipush 64, 2) := by decide +kernel
theorem dX12_laySizes_98 : decode cX12_laySizes 98 = .ok (.if_icmp .ge 7, 3) := by decide +kernel
theorem dX12_laySizes_101 : decode cX12_laySizes 101 = .ok (.lload_n 3, 1) := by decide +kernel
theorem dX12_laySizes_102 : decode cX12_laySizes 102 = .ok (.goto 5, 3) := by decide +kernel
theorem dX12_laySizes_105 : decode cX12_laySizes 105 = .ok (.lload 5, 2) := by decide +kernel
theorem dX12_laySizes_107 : decode cX12_laySizes 107 = .ok (.iload 7, 2) := by decide +kernel
theorem dX12_laySizes_109 : decode cX12_laySizes 109 = .ok (.bipush 64, 2) := by decide +kernel
theorem dX12_laySizes_111 : decode cX12_laySizes 111 = .ok (.irem, 1) := by decide +kernel
theorem dX12_laySizes_112 : decode cX12_laySizes 112 = .ok (.lshr, 1) := by decide +kernel
theorem dX12_laySizes_113 : decode cX12_laySizes 113 = .ok (.lconst 1, 1) := by decide +kernel
theorem dX12_laySizes_114 : decode cX12_laySizes 114 = .ok (.land, 1) := by decide +kernel
theorem dX12_laySizes_115 : decode cX12_laySizes 115 = .ok (.lconst 1, 1) := by decide +kernel
theorem dX12_laySizes_116 : decode cX12_laySizes 116 = .ok (.lcmp, 1) := by decide +kernel
theorem dX12_laySizes_117 : decode cX12_laySizes 117 = .ok (.ifCond .ne 9, 3) := by decide +kernel
theorem dX12_laySizes_120 : decode cX12_laySizes 120 = .ok (.iinc 7 1, 3) := by decide +kernel
theorem dX12_laySizes_123 : decode cX12_laySizes 123 = .ok (.goto (-29), 3) := by decide +kernel
theorem dX12_laySizes_126 : decode cX12_laySizes 126 = .ok (.aload_n 0, 1) := by decide +kernel
theorem dX12_laySizes_127 : decode cX12_laySizes 127 = .ok (.getfield 82, 3) := by decide +kernel
theorem dX12_laySizes_130 : decode cX12_laySizes 130 = .ok (.iload_n 2, 1) := by decide +kernel
theorem dX12_laySizes_131 : decode cX12_laySizes 131 = .ok (.iload 7, 2) := by decide +kernel
theorem dX12_laySizes_133 : decode cX12_laySizes 133 = .ok (.iastore, 1) := by decide +kernel
theorem dX12_laySizes_134 : decode cX12_laySizes 134 = .ok (.iinc 2 1, 3) := by decide +kernel
theorem dX12_laySizes_137 : decode cX12_laySizes 137 = .ok (.goto (-135), 3) := by decide +kernel
theorem dX12_laySizes_140 : decode cX12_laySizes 140 = .ok (.return_, 1) := by decide +kernel
theorem dX12_isRow_0 : decode cX12_isRow 0 = .ok (.iload_n 0, 1) := by decide +kernel
theorem dX12_isRow_1 : decode cX12_isRow 1 = .ok (.iconst 0, 1) := by decide +kernel
theorem dX12_isRow_2 : decode cX12_isRow 2 = .ok (.sipush 200, 3) := by decide +kernel
theorem dX12_isRow_5 : decode cX12_isRow 5 = .ok (.invokestatic 168, 3) := by decide +kernel
theorem dX12_isRow_8 : decode cX12_isRow 8 = .ok (.ireturn, 1) := by decide +kernel
theorem dX12_size_0 : decode cX12_size 0 = .ok (.aload_n 0, 1) := by decide +kernel
theorem dX12_size_1 : decode cX12_size 1 = .ok (.invokevirtual 176, 3) := by decide +kernel
theorem dX12_size_4 : decode cX12_size 4 = .ok (.iload_n 1, 1) := by decide +kernel
theorem dX12_size_5 : decode cX12_size 5 = .ok (.invokestatic 377, 3) := by decide +kernel
theorem dX12_size_8 : decode cX12_size 8 = .ok (.ifCond .eq 13, 3) := by decide +kernel
theorem dX12_size_11 : decode cX12_size 11 = .ok (.iload_n 2, 1) := by decide +kernel
theorem dX12_size_12 : decode cX12_size 12 = .ok (.iconst 1, 1) := by decide +kernel
theorem dX12_size_13 : decode cX12_size 13 = .ok (.bipush 9, 2) := by decide +kernel
theorem dX12_size_15 : decode cX12_size 15 = .ok (.invokestatic 168, 3) := by decide +kernel
theorem dX12_size_18 : decode cX12_size 18 = .ok (.ifCond .ne 9, 3) := by decide +kernel
theorem dX12_size_21 : decode cX12_size 21 = .ok (.aload_n 0, 1) := by decide +kernel
theorem dX12_size_22 : decode cX12_size 22 = .ok (.iconst 2, 1) := by decide +kernel
theorem dX12_size_23 : decode cX12_size 23 = .ok (.invokevirtual 179, 3) := by decide +kernel
theorem dX12_size_26 : decode cX12_size 26 = .ok (.ireturn, 1) := by decide +kernel
theorem dX12_size_27 : decode cX12_size 27 = .ok (.aload_n 0, 1) := by decide +kernel
theorem dX12_size_28 : decode cX12_size 28 = .ok (.iload_n 2, 1) := by decide +kernel
theorem dX12_size_29 : decode cX12_size 29 = .ok (.invokevirtual 380, 3) := by decide +kernel
theorem dX12_size_32 : decode cX12_size 32 = .ok (.aload_n 0, 1) := by decide +kernel
theorem dX12_size_33 : decode cX12_size 33 = .ok (.getfield 82, 3) := by decide +kernel
theorem dX12_size_36 : decode cX12_size 36 = .ok (.iload_n 1, 1) := by decide +kernel
theorem dX12_size_37 : decode cX12_size 37 = .ok (.iaload, 1) := by decide +kernel
theorem dX12_size_38 : decode cX12_size 38 = .ok (.ireturn, 1) := by decide +kernel
theorem dX12_rows_0 : decode cX12_rows 0 = .ok (.aload_n 0, 1) := by decide +kernel
theorem dX12_rows_1 : decode cX12_rows 1 = .ok (.invokevirtual 176, 3) := by decide +kernel
theorem dX12_rows_4 : decode cX12_rows 4 = .ok (.iload_n 1, 1) := by decide +kernel
theorem dX12_rows_5 : decode cX12_rows 5 = .ok (.invokestatic 377, 3) := by decide +kernel
theorem dX12_rows_8 : decode cX12_rows 8 = .ok (.ifCond .eq 28, 3) := by decide +kernel
theorem dX12_rows_11 : decode cX12_rows 11 = .ok (.iload_n 2, 1) := by decide +kernel
theorem dX12_rows_12 : decode cX12_rows 12 = .ok (.invokestatic 377, 3) := by decide +kernel
theorem dX12_rows_15 : decode cX12_rows 15 = .ok (.ifCond .eq 21, 3) := by decide +kernel
theorem dX12_rows_18 : decode cX12_rows 18 = .ok (.iload_n 3, 1) := by decide +kernel
theorem dX12_rows_19 : decode cX12_rows 19 = .ok (.invokestatic 377, 3) := by decide +kernel
theorem dX12_rows_22 : decode cX12_rows 22 = .ok (.ifCond .eq 14, 3) := by decide +kernel
theorem dX12_rows_25 : decode cX12_rows 25 = .ok (.iload 4, 2) := by decide +kernel
theorem dX12_rows_27 : decode cX12_rows 27 = .ok (.iconst 1, 1) := by decide +kernel
theorem dX12_rows_28 : decode cX12_rows 28 = .ok (.bipush 9, 2) := by decide +kernel
theorem dX12_rows_30 : decode cX12_rows 30 = .ok (.invokestatic 168, 3) := by decide +kernel
theorem dX12_rows_33 : decode cX12_rows 33 = .ok (.ifCond .ne 9, 3) := by decide +kernel
theorem dX12_rows_36 : decode cX12_rows 36 = .ok (.aload_n 0, 1) := by decide +kernel
theorem dX12_rows_37 : decode cX12_rows 37 = .ok (.iconst 2, 1) := by decide +kernel
theorem dX12_rows_38 : decode cX12_rows 38 = .ok (.invokevirtual 179, 3) := by decide +kernel
theorem dX12_rows_41 : decode cX12_rows 41 = .ok (.ireturn, 1) := by decide +kernel
theorem dX12_rows_42 : decode cX12_rows 42 = .ok (.aload_n 0, 1) := by decide +kernel
theorem dX12_rows_43 : decode cX12_rows 43 = .ok (.iload 4, 2) := by decide +kernel
theorem dX12_rows_45 : decode cX12_rows 45 = .ok (.invokevirtual 380, 3) := by decide +kernel
theorem dX12_rows_48 : decode cX12_rows 48 = .ok (.aload_n 0, 1) := by decide +kernel
theorem dX12_rows_49 : decode cX12_rows 49 = .ok (.getfield 82, 3) := by decide +kernel
theorem dX12_rows_52 : decode cX12_rows 52 = .ok (.iload_n 1, 1) := by decide +kernel
theorem dX12_rows_53 : decode cX12_rows 53 = .ok (.iaload, 1) := by decide +kernel
theorem dX12_rows_54 : decode cX12_rows 54 = .ok (.aload_n 0, 1) := by decide +kernel
theorem dX12_rows_55 : decode cX12_rows 55 = .ok (.getfield 82, 3) := by decide +kernel
theorem dX12_rows_58 : decode cX12_rows 58 = .ok (.iload_n 2, 1) := by decide +kernel
theorem dX12_rows_59 : decode cX12_rows 59 = .ok (.iaload, 1) := by decide +kernel
theorem dX12_rows_60 : decode cX12_rows 60 = .ok (.ixor, 1) := by decide +kernel
theorem dX12_rows_61 : decode cX12_rows 61 = .ok (.aload_n 0, 1) := by decide +kernel
theorem dX12_rows_62 : decode cX12_rows 62 = .ok (.getfield 82, 3) := by decide +kernel
theorem dX12_rows_65 : decode cX12_rows 65 = .ok (.iload_n 3, 1) := by decide +kernel
theorem dX12_rows_66 : decode cX12_rows 66 = .ok (.iaload, 1) := by decide +kernel
theorem dX12_rows_67 : decode cX12_rows 67 = .ok (.ixor, 1) := by decide +kernel
theorem dX12_rows_68 : decode cX12_rows 68 = .ok (.ifCond .eq 7, 3) := by decide +kernel
theorem dX12_rows_71 : decode cX12_rows 71 = .ok (.iconst 1, 1) := by decide +kernel
theorem dX12_rows_72 : decode cX12_rows 72 = .ok (.goto 4, 3) := by decide +kernel
theorem dX12_rows_75 : decode cX12_rows 75 = .ok (.iconst 0, 1) := by decide +kernel
theorem dX12_rows_76 : decode cX12_rows 76 = .ok (.ireturn, 1) := by decide +kernel
theorem dX12_rowLay_0 : decode cX12_rowLay 0 = .ok (.aload_n 0, 1) := by decide +kernel
theorem dX12_rowLay_1 : decode cX12_rowLay 1 = .ok (.invokevirtual 176, 3) := by decide +kernel
theorem dX12_rowLay_4 : decode cX12_rowLay 4 = .ok (.iload_n 1, 1) := by decide +kernel
theorem dX12_rowLay_5 : decode cX12_rowLay 5 = .ok (.invokestatic 377, 3) := by decide +kernel
theorem dX12_rowLay_8 : decode cX12_rowLay 8 = .ok (.ifCond .eq 23, 3) := by decide +kernel
theorem dX12_rowLay_11 : decode cX12_rowLay 11 = .ok (.iload_n 2, 1) := by decide +kernel
theorem dX12_rowLay_12 : decode cX12_rowLay 12 = .ok (.iconst 1, 1) := by decide +kernel
theorem dX12_rowLay_13 : decode cX12_rowLay 13 = .ok (.bipush 9, 2) := by decide +kernel
theorem dX12_rowLay_15 : decode cX12_rowLay 15 = .ok (.invokestatic 168, 3) := by decide +kernel
theorem dX12_rowLay_18 : decode cX12_rowLay 18 = .ok (.ifCond .eq 13, 3) := by decide +kernel
theorem dX12_rowLay_21 : decode cX12_rowLay 21 = .ok (.iload_n 3, 1) := by decide +kernel
theorem dX12_rowLay_22 : decode cX12_rowLay 22 = .ok (.iconst 0, 1) := by decide +kernel
theorem dX12_rowLay_23 : decode cX12_rowLay 23 = .ok (.bipush 99, 2) := by decide +kernel
theorem dX12_rowLay_25 : decode cX12_rowLay 25 = .ok (.invokestatic 168, 3) := by decide +kernel
theorem dX12_rowLay_28 : decode cX12_rowLay 28 = .ok (.ifCond .ne 9, 3) := by decide +kernel
theorem dX12_rowLay_31 : decode cX12_rowLay 31 = .ok (.aload_n 0, 1) := by decide +kernel
theorem dX12_rowLay_32 : decode cX12_rowLay 32 = .ok (.iconst 2, 1) := by decide +kernel
theorem dX12_rowLay_33 : decode cX12_rowLay 33 = .ok (.invokevirtual 179, 3) := by decide +kernel
theorem dX12_rowLay_36 : decode cX12_rowLay 36 = .ok (.ireturn, 1) := by decide +kernel
theorem dX12_rowLay_37 : decode cX12_rowLay 37 = .ok (.aload_n 0, 1) := by decide +kernel
theorem dX12_rowLay_38 : decode cX12_rowLay 38 = .ok (.iload_n 2, 1) := by decide +kernel
theorem dX12_rowLay_39 : decode cX12_rowLay 39 = .ok (.invokevirtual 380, 3) := by decide +kernel
theorem dX12_rowLay_42 : decode cX12_rowLay 42 = .ok (.iconst 0, 1) := by decide +kernel
theorem dX12_rowLay_43 : decode cX12_rowLay 43 = .ok (.istore 4, 2) := by decide +kernel
theorem dX12_rowLay_45 : decode cX12_rowLay 45 = .ok (.iload 4, 2) := by decide +kernel
theorem dX12_rowLay_47 : decode cX12_rowLay 47 = .ok (.iload_n 2, 1) := by decide +kernel
theorem dX12_rowLay_48 : decode cX12_rowLay 48 = .ok (.iadd, 1) := by decide +kernel
theorem dX12_rowLay_49 : decode cX12_rowLay 49 = .ok (.iload_n 1, 1) := by decide +kernel
theorem dX12_rowLay_50 : decode cX12_rowLay 50 = .ok (.if_icmp .gt 35, 3) := by decide +kernel
theorem dX12_rowLay_53 : decode cX12_rowLay 53 = .ok (.aload_n 0, 1) := by decide +kernel
theorem dX12_rowLay_54 : decode cX12_rowLay 54 = .ok (.getfield 82, 3) := by decide +kernel
theorem dX12_rowLay_57 : decode cX12_rowLay 57 = .ok (.iload 4, 2) := by decide +kernel
theorem dX12_rowLay_59 : decode cX12_rowLay 59 = .ok (.iaload, 1) := by decide +kernel
theorem dX12_rowLay_60 : decode cX12_rowLay 60 = .ok (.aload_n 0, 1) := by decide +kernel
theorem dX12_rowLay_61 : decode cX12_rowLay 61 = .ok (.getfield 82, 3) := by decide +kernel
theorem dX12_rowLay_64 : decode cX12_rowLay 64 = .ok (.iload_n 1, 1) := by decide +kernel
theorem dX12_rowLay_65 : decode cX12_rowLay 65 = .ok (.iload_n 2, 1) := by decide +kernel
theorem dX12_rowLay_66 : decode cX12_rowLay 66 = .ok (.isub, 1) := by decide +kernel
theorem dX12_rowLay_67 : decode cX12_rowLay 67 = .ok (.iload 4, 2) := by decide +kernel
theorem dX12_rowLay_69 : decode cX12_rowLay 69 = .ok (.isub, 1) := by decide +kernel
theorem dX12_rowLay_70 : decode cX12_rowLay 70 = .ok (.iaload, 1) := by decide +kernel
theorem dX12_rowLay_71 : decode cX12_rowLay 71 = .ok (.ixor, 1) := by decide +kernel
theorem dX12_rowLay_72 : decode cX12_rowLay 72 = .ok (.iload_n 3, 1) := by decide +kernel
theorem dX12_rowLay_73 : decode cX12_rowLay 73 = .ok (.if_icmp .ne 6, 3) := by decide +kernel
theorem dX12_rowLay_76 : decode cX12_rowLay 76 = .ok (.iload 4, 2) := by decide +kernel
theorem dX12_rowLay_78 : decode cX12_rowLay 78 = .ok (.ireturn, 1) := by decide +kernel
theorem dX12_rowLay_79 : decode cX12_rowLay 79 = .ok (.iinc 4 1, 3) := by decide +kernel
theorem dX12_rowLay_82 : decode cX12_rowLay 82 = .ok (.goto (-37), 3) := by decide +kernel
theorem dX12_rowLay_85 : decode cX12_rowLay 85 = .ok (.bipush (-2), 2) := by decide +kernel
theorem dX12_rowLay_87 : decode cX12_rowLay 87 = .ok (.ireturn, 1) := by decide +kernel
theorem dX12_round_0 : decode cX12_round 0 = .ok (.aload_n 0, 1) := by decide +kernel
theorem dX12_round_1 : decode cX12_round 1 = .ok (.invokevirtual 176, 3) := by decide +kernel
theorem dX12_round_4 : decode cX12_round 4 = .ok (.iload_n 1, 1) := by decide +kernel
theorem dX12_round_5 : decode cX12_round 5 = .ok (.iconst 1, 1) := by decide +kernel
theorem dX12_round_6 : decode cX12_round 6 = .ok (.bipush 9, 2) := by decide +kernel
theorem dX12_round_8 : decode cX12_round 8 = .ok (.invokestatic 168, 3) := by decide +kernel
theorem dX12_round_11 : decode cX12_round 11 = .ok (.ifCond .ne 9, 3) := by decide +kernel
theorem dX12_round_14 : decode cX12_round 14 = .ok (.aload_n 0, 1) := by decide +kernel
theorem dX12_round_15 : decode cX12_round 15 = .ok (.iconst 2, 1) := by decide +kernel
theorem dX12_round_16 : decode cX12_round 16 = .ok (.invokevirtual 179, 3) := by decide +kernel
theorem dX12_round_19 : decode cX12_round 19 = .ok (.ireturn, 1) := by decide +kernel
theorem dX12_round_20 : decode cX12_round 20 = .ok (.aload_n 0, 1) := by decide +kernel
theorem dX12_round_21 : decode cX12_round 21 = .ok (.iload_n 1, 1) := by decide +kernel
theorem dX12_round_22 : decode cX12_round 22 = .ok (.invokevirtual 380, 3) := by decide +kernel
theorem dX12_round_25 : decode cX12_round 25 = .ok (.iconst 1, 1) := by decide +kernel
theorem dX12_round_26 : decode cX12_round 26 = .ok (.istore_n 3, 1) := by decide +kernel
theorem dX12_round_27 : decode cX12_round 27 = .ok (.iload_n 3, 1) := by decide +kernel
theorem dX12_round_28 : decode cX12_round 28 = .ok (.bipush 60, 2) := by decide +kernel
theorem dX12_round_30 : decode cX12_round 30 = .ok (.if_icmp .gt 68, 3) := by decide +kernel
theorem dX12_round_33 : decode cX12_round 33 = .ok (.sipush 201, 3) := by decide +kernel
theorem dX12_round_36 : decode cX12_round 36 = .ok (.iload_n 3, 1) := by decide +kernel
theorem dX12_round_37 : decode cX12_round 37 = .ok (.isub, 1) := by decide +kernel
theorem dX12_round_38 : decode cX12_round 38 = .ok (.istore 4, 2) := by decide +kernel
theorem dX12_round_40 : decode cX12_round 40 = .ok (.iload 4, 2) := by decide +kernel
theorem dX12_round_42 : decode cX12_round 42 = .ok (.ifCond .le 32, 3) := by decide +kernel
theorem dX12_round_45 : decode cX12_round 45 = .ok (.aload_n 0, 1) := by decide +kernel
theorem dX12_round_46 : decode cX12_round 46 = .ok (.getfield 82, 3) := by decide +kernel
theorem dX12_round_49 : decode cX12_round 49 = .ok (.iload 4, 2) := by decide +kernel
theorem dX12_round_51 : decode cX12_round 51 = .ok (.iconst 1, 1) := by decide +kernel
theorem dX12_round_52 : decode cX12_round 52 = .ok (.isub, 1) := by decide +kernel
theorem dX12_round_53 : decode cX12_round 53 = .ok (.iaload, 1) := by decide +kernel
theorem dX12_round_54 : decode cX12_round 54 = .ok (.aload_n 0, 1) := by decide +kernel
theorem dX12_round_55 : decode cX12_round 55 = .ok (.getfield 82, 3) := by decide +kernel
theorem dX12_round_58 : decode cX12_round 58 = .ok (.iload 4, 2) := by decide +kernel
theorem dX12_round_60 : decode cX12_round 60 = .ok (.iconst 1, 1) := by decide +kernel
theorem dX12_round_61 : decode cX12_round 61 = .ok (.isub, 1) := by decide +kernel
theorem dX12_round_62 : decode cX12_round 62 = .ok (.iload_n 3, 1) := by decide +kernel
theorem dX12_round_63 : decode cX12_round 63 = .ok (.iadd, 1) := by decide +kernel
theorem dX12_round_64 : decode cX12_round 64 = .ok (.iaload, 1) := by decide +kernel
theorem dX12_round_65 : decode cX12_round 65 = .ok (.if_icmp .ne 9, 3) := by decide +kernel
theorem dX12_round_68 : decode cX12_round 68 = .ok (.iinc 4 (-1), 3) := by decide +kernel
theorem dX12_round_71 : decode cX12_round 71 = .ok (.goto (-31), 3) := by decide +kernel
theorem dX12_round_74 : decode cX12_round 74 = .ok (.iload 4, 2) := by decide +kernel
theorem dX12_round_76 : decode cX12_round 76 = .ok (.bipush 100, 2) := by decide +kernel
theorem dX12_round_78 : decode cX12_round 78 = .ok (.if_icmp .gt 14, 3) := by decide +kernel
theorem dX12_round_81 : decode cX12_round 81 = .ok (.iload_n 2, 1) := by decide +kernel
theorem dX12_round_82 : decode cX12_round 82 = .ok (.ifCond .eq 8, 3) := by decide +kernel
theorem dX12_round_85 : decode cX12_round 85 = .ok (.iload 4, 2) := by decide +kernel
theorem dX12_round_87 : decode cX12_round 87 = .ok (.goto 4, 3) := by decide +kernel
theorem dX12_round_90 : decode cX12_round 90 = .ok (.iload_n 3, 1) := by decide +kernel
theorem dX12_round_91 : decode cX12_round 91 = .ok (.ireturn, 1) := by decide +kernel
theorem dX12_round_92 : decode cX12_round 92 = .ok (.iinc 3 1, 3) := by decide +kernel
theorem dX12_round_95 : decode cX12_round 95 = .ok (.goto (-68), 3) := by decide +kernel
theorem dX12_round_98 : decode cX12_round 98 = .ok (.bipush (-2), 2) := by decide +kernel
theorem dX12_round_100 : decode cX12_round 100 = .ok (.ireturn, 1) := by decide +kernel
theorem dX12_wouldLay_0 : decode cX12_wouldLay 0 = .ok (.aload_n 0, 1) := by decide +kernel
theorem dX12_wouldLay_1 : decode cX12_wouldLay 1 = .ok (.iload_n 2, 1) := by decide +kernel
theorem dX12_wouldLay_2 : decode cX12_wouldLay 2 = .ok (.iconst 0, 1) := by decide +kernel
theorem dX12_wouldLay_3 : decode cX12_wouldLay 3 = .ok (.invokevirtual 317, 3) := by decide +kernel
theorem dX12_wouldLay_6 : decode cX12_wouldLay 6 = .ok (.istore 4, 2) := by decide +kernel
theorem dX12_wouldLay_8 : decode cX12_wouldLay 8 = .ok (.iload 4, 2) := by decide +kernel
theorem dX12_wouldLay_10 : decode cX12_wouldLay 10 = .ok (.bipush (-2), 2) := by decide +kernel
theorem dX12_wouldLay_12 : decode cX12_wouldLay 12 = .ok (.if_icmp .ne 6, 3) := by decide +kernel
theorem dX12_wouldLay_15 : decode cX12_wouldLay 15 = .ok (.bipush (-2), 2) := by decide +kernel
theorem dX12_wouldLay_17 : decode cX12_wouldLay 17 = .ok (.ireturn, 1) := by decide +kernel
theorem dX12_wouldLay_18 : decode cX12_wouldLay 18 = .ok (.iload_n 1, 1) := by decide +kernel
theorem dX12_wouldLay_19 : decode cX12_wouldLay 19 = .ok (.tableswitch 173 0 3 #[29, 32, 96, 139], 29) := by decide +kernel
theorem dX12_wouldLay_48 : decode cX12_wouldLay 48 = .ok (.iload 4, 2) := by decide +kernel
theorem dX12_wouldLay_50 : decode cX12_wouldLay 50 = .ok (.ireturn, 1) := by decide +kernel
theorem dX12_wouldLay_51 : decode cX12_wouldLay 51 = .ok (.iload 4, 2) := by decide +kernel
theorem dX12_wouldLay_53 : decode cX12_wouldLay 53 = .ok (.istore 5, 2) := by decide +kernel
theorem dX12_wouldLay_55 : decode cX12_wouldLay 55 = .ok (.iconst 0, 1) := by decide +kernel
theorem dX12_wouldLay_56 : decode cX12_wouldLay 56 = .ok (.istore 6, 2) := by decide +kernel
theorem dX12_wouldLay_58 : decode cX12_wouldLay 58 = .ok (.iload 6, 2) := by decide +kernel
theorem dX12_wouldLay_60 : decode cX12_wouldLay 60 = .ok (.aload_n 0, 1) := by decide +kernel
theorem dX12_wouldLay_61 : decode cX12_wouldLay 61 = .ok (.getfield 205, 3) := by decide +kernel
theorem dX12_wouldLay_64 : decode cX12_wouldLay 64 = .ok (.if_icmp .ge 48, 3) := by decide +kernel
theorem dX12_wouldLay_67 : decode cX12_wouldLay 67 = .ok (.aload_n 0, 1) := by decide +kernel
theorem dX12_wouldLay_68 : decode cX12_wouldLay 68 = .ok (.iload_n 2, 1) := by decide +kernel
theorem dX12_wouldLay_69 : decode cX12_wouldLay 69 = .ok (.iload 6, 2) := by decide +kernel
theorem dX12_wouldLay_71 : decode cX12_wouldLay 71 = .ok (.invokevirtual 302, 3) := by decide +kernel
theorem dX12_wouldLay_74 : decode cX12_wouldLay 74 = .ok (.ifCond .eq 32, 3) := by decide +kernel
theorem dX12_wouldLay_77 : decode cX12_wouldLay 77 = .ok (.aload_n 0, 1) := by decide +kernel
theorem dX12_wouldLay_78 : decode cX12_wouldLay 78 = .ok (.aload_n 0, 1) := by decide +kernel
theorem dX12_wouldLay_79 : decode cX12_wouldLay 79 = .ok (.iload_n 2, 1) := by decide +kernel
theorem dX12_wouldLay_80 : decode cX12_wouldLay 80 = .ok (.iload 6, 2) := by decide +kernel
theorem dX12_wouldLay_82 : decode cX12_wouldLay 82 = .ok (.invokevirtual 331, 3) := by decide +kernel
theorem dX12_wouldLay_85 : decode cX12_wouldLay 85 = .ok (.invokevirtual 314, 3) := by decide +kernel
theorem dX12_wouldLay_88 : decode cX12_wouldLay 88 = .ok (.aload_n 0, 1) := by decide +kernel
theorem dX12_wouldLay_89 : decode cX12_wouldLay 89 = .ok (.aload_n 0, 1) := by decide +kernel
theorem dX12_wouldLay_90 : decode cX12_wouldLay 90 = .ok (.iload_n 2, 1) := by decide +kernel
theorem dX12_wouldLay_91 : decode cX12_wouldLay 91 = .ok (.iload 5, 2) := by decide +kernel
theorem dX12_wouldLay_93 : decode cX12_wouldLay 93 = .ok (.invokevirtual 331, 3) := by decide +kernel
theorem dX12_wouldLay_96 : decode cX12_wouldLay 96 = .ok (.invokevirtual 314, 3) := by decide +kernel
theorem dX12_wouldLay_99 : decode cX12_wouldLay 99 = .ok (.if_icmp .ge 7, 3) := by decide +kernel
theorem dX12_wouldLay_102 : decode cX12_wouldLay 102 = .ok (.iload 6, 2) := by decide +kernel
theorem dX12_wouldLay_104 : decode cX12_wouldLay 104 = .ok (.istore 5, 2) := by decide +kernel
theorem dX12_wouldLay_106 : decode cX12_wouldLay 106 = .ok (.iinc 6 1, 3) := by decide +kernel
theorem dX12_wouldLay_109 : decode cX12_wouldLay 109 = .ok (.goto (-51), 3) := by decide +kernel
theorem dX12_wouldLay_112 : decode cX12_wouldLay 112 = .ok (.iload 5, 2) := by decide +kernel
theorem dX12_wouldLay_114 : decode cX12_wouldLay 114 = .ok (.ireturn, 1) := by decide +kernel
theorem dX12_wouldLay_115 : decode cX12_wouldLay 115 = .ok (.iload_n 3, 1) := by decide +kernel
theorem dX12_wouldLay_116 : decode cX12_wouldLay 116 = .ok (.bipush (-2), 2) := by decide +kernel
theorem dX12_wouldLay_118 : decode cX12_wouldLay 118 = .ok (.if_icmp .ne 8, 3) := by decide +kernel
theorem dX12_wouldLay_121 : decode cX12_wouldLay 121 = .ok (.bipush (-2), 2) := by decide +kernel
theorem dX12_wouldLay_123 : decode cX12_wouldLay 123 = .ok (.goto 8, 3) := by decide +kernel
theorem dX12_wouldLay_126 : decode cX12_wouldLay 126 = .ok (.aload_n 0, 1) := by decide +kernel
theorem dX12_wouldLay_127 : decode cX12_wouldLay 127 = .ok (.iload_n 3, 1) := by decide +kernel
theorem dX12_wouldLay_128 : decode cX12_wouldLay 128 = .ok (.invokevirtual 323, 3) := by decide +kernel
theorem dX12_wouldLay_131 : decode cX12_wouldLay 131 = .ok (.istore 6, 2) := by decide +kernel
theorem dX12_wouldLay_133 : decode cX12_wouldLay 133 = .ok (.iload 6, 2) := by decide +kernel
theorem dX12_wouldLay_135 : decode cX12_wouldLay 135 = .ok (.bipush (-2), 2) := by decide +kernel
theorem dX12_wouldLay_137 : decode cX12_wouldLay 137 = .ok (.if_icmp .eq 18, 3) := by decide +kernel
theorem dX12_wouldLay_140 : decode cX12_wouldLay 140 = .ok (.aload_n 0, 1) := by decide +kernel
theorem dX12_wouldLay_141 : decode cX12_wouldLay 141 = .ok (.iload_n 2, 1) := by decide +kernel
theorem dX12_wouldLay_142 : decode cX12_wouldLay 142 = .ok (.iload 6, 2) := by decide +kernel
theorem dX12_wouldLay_144 : decode cX12_wouldLay 144 = .ok (.invokevirtual 302, 3) := by decide +kernel
theorem dX12_wouldLay_147 : decode cX12_wouldLay 147 = .ok (.ifCond .eq 8, 3) := by decide +kernel
theorem dX12_wouldLay_150 : decode cX12_wouldLay 150 = .ok (.iload 6, 2) := by decide +kernel
theorem dX12_wouldLay_152 : decode cX12_wouldLay 152 = .ok (.goto 5, 3) := by decide +kernel
theorem dX12_wouldLay_155 : decode cX12_wouldLay 155 = .ok (.iload 4, 2) := by decide +kernel
theorem dX12_wouldLay_157 : decode cX12_wouldLay 157 = .ok (.ireturn, 1) := by decide +kernel
theorem dX12_wouldLay_158 : decode cX12_wouldLay 158 = .ok (.aload_n 0, 1) := by decide +kernel
theorem dX12_wouldLay_159 : decode cX12_wouldLay 159 = .ok (.bipush 75, 2) := by decide +kernel
theorem dX12_wouldLay_161 : decode cX12_wouldLay 161 = .ok (.aload_n 0, 1) := by decide +kernel
theorem dX12_wouldLay_162 : decode cX12_wouldLay 162 = .ok (.getfield 383, 3) := by decide +kernel
theorem dX12_wouldLay_165 : decode cX12_wouldLay 165 = .ok (.imul, 1) := by decide +kernel
theorem dX12_wouldLay_166 : decode cX12_wouldLay 166 = .ok (.bipush 74, 2) := by decide +kernel
theorem dX12_wouldLay_168 : decode cX12_wouldLay 168 = .ok (.iadd, 1) := by decide +kernel
theorem dX12_wouldLay_169 : decode cX12_wouldLay 169 = .ok (.ldc_w 386, 3) := by decide +kernel
theorem dX12_wouldLay_172 : decode cX12_wouldLay 172 = .ok (.irem, 1) := by decide +kernel
theorem dX12_wouldLay_173 : decode cX12_wouldLay 173 = .ok (.putfield 383, 3) := by decide +kernel
theorem dX12_wouldLay_176 : decode cX12_wouldLay 176 = .ok (.aload_n 0, 1) := by decide +kernel
theorem dX12_wouldLay_177 : decode cX12_wouldLay 177 = .ok (.iload_n 2, 1) := by decide +kernel
theorem dX12_wouldLay_178 : decode cX12_wouldLay 178 = .ok (.aload_n 0, 1) := by decide +kernel
theorem dX12_wouldLay_179 : decode cX12_wouldLay 179 = .ok (.getfield 383, 3) := by decide +kernel
theorem dX12_wouldLay_182 : decode cX12_wouldLay 182 = .ok (.aload_n 0, 1) := by decide +kernel
theorem dX12_wouldLay_183 : decode cX12_wouldLay 183 = .ok (.iload_n 2, 1) := by decide +kernel
theorem dX12_wouldLay_184 : decode cX12_wouldLay 184 = .ok (.invokevirtual 314, 3) := by decide +kernel
theorem dX12_wouldLay_187 : decode cX12_wouldLay 187 = .ok (.irem, 1) := by decide +kernel
theorem dX12_wouldLay_188 : decode cX12_wouldLay 188 = .ok (.invokevirtual 317, 3) := by decide +kernel
theorem dX12_wouldLay_191 : decode cX12_wouldLay 191 = .ok (.ireturn, 1) := by decide +kernel
theorem dX12_wouldLay_192 : decode cX12_wouldLay 192 = .ok (.aload_n 0, 1) := by decide +kernel
theorem dX12_wouldLay_193 : decode cX12_wouldLay 193 = .ok (.iload_n 2, 1) := by decide +kernel
theorem dX12_wouldLay_194 : decode cX12_wouldLay 194 = .ok (.invokevirtual 358, 3) := by decide +kernel
theorem dX12_wouldLay_197 : decode cX12_wouldLay 197 = .ok (.ifCond .le 10, 3) := by decide +kernel
theorem dX12_wouldLay_200 : decode cX12_wouldLay 200 = .ok (.aload_n 0, 1) := by decide +kernel
theorem dX12_wouldLay_201 : decode cX12_wouldLay 201 = .ok (.getfield 355, 3) := by decide +kernel
theorem dX12_wouldLay_204 : decode cX12_wouldLay 204 = .ok (.goto 5, 3) := by decide +kernel
theorem dX12_wouldLay_207 : decode cX12_wouldLay 207 = .ok (.iload 4, 2) := by decide +kernel
theorem dX12_wouldLay_209 : decode cX12_wouldLay 209 = .ok (.ireturn, 1) := by decide +kernel
theorem dX12_latest_0 : decode cX12_latest 0 = .ok (.aload_n 0, 1) := by decide +kernel
theorem dX12_latest_1 : decode cX12_latest 1 = .ok (.getfield 26, 3) := by decide +kernel
theorem dX12_latest_4 : decode cX12_latest 4 = .ok (.iconst 0, 1) := by decide +kernel
theorem dX12_latest_5 : decode cX12_latest 5 = .ok (.iaload, 1) := by decide +kernel
theorem dX12_latest_6 : decode cX12_latest 6 = .ok (.ifCond .ne 8, 3) := by decide +kernel
theorem dX12_latest_9 : decode cX12_latest 9 = .ok (.bipush (-2), 2) := by decide +kernel
theorem dX12_latest_11 : decode cX12_latest 11 = .ok (.goto 18, 3) := by decide +kernel
theorem dX12_latest_14 : decode cX12_latest 14 = .ok (.aload_n 0, 1) := by decide +kernel
theorem dX12_latest_15 : decode cX12_latest 15 = .ok (.getfield 26, 3) := by decide +kernel
theorem dX12_latest_18 : decode cX12_latest 18 = .ok (.iconst 1, 1) := by decide +kernel
theorem dX12_latest_19 : decode cX12_latest 19 = .ok (.aload_n 0, 1) := by decide +kernel
theorem dX12_latest_20 : decode cX12_latest 20 = .ok (.getfield 26, 3) := by decide +kernel
theorem dX12_latest_23 : decode cX12_latest 23 = .ok (.iconst 0, 1) := by decide +kernel
theorem dX12_latest_24 : decode cX12_latest 24 = .ok (.iaload, 1) := by decide +kernel
theorem dX12_latest_25 : decode cX12_latest 25 = .ok (.iadd, 1) := by decide +kernel
theorem dX12_latest_26 : decode cX12_latest 26 = .ok (.iconst 1, 1) := by decide +kernel
theorem dX12_latest_27 : decode cX12_latest 27 = .ok (.isub, 1) := by decide +kernel
theorem dX12_latest_28 : decode cX12_latest 28 = .ok (.iaload, 1) := by decide +kernel
theorem dX12_latest_29 : decode cX12_latest 29 = .ok (.ireturn, 1) := by decide +kernel
theorem dX12_isPlayer_0 : decode cX12_isPlayer 0 = .ok (.aload_n 0, 1) := by decide +kernel
theorem dX12_isPlayer_1 : decode cX12_isPlayer 1 = .ok (.getfield 185, 3) := by decide +kernel
theorem dX12_isPlayer_4 : decode cX12_isPlayer 4 = .ok (.ifCond .eq 16, 3) := by decide +kernel
theorem dX12_isPlayer_7 : decode cX12_isPlayer 7 = .ok (.iload_n 1, 1) := by decide +kernel
theorem dX12_isPlayer_8 : decode cX12_isPlayer 8 = .ok (.iconst 0, 1) := by decide +kernel
theorem dX12_isPlayer_9 : decode cX12_isPlayer 9 = .ok (.iconst 4, 1) := by decide +kernel
theorem dX12_isPlayer_10 : decode cX12_isPlayer 10 = .ok (.invokestatic 168, 3) := by decide +kernel
theorem dX12_isPlayer_13 : decode cX12_isPlayer 13 = .ok (.ifCond .eq 7, 3) := by decide +kernel
theorem dX12_isPlayer_16 : decode cX12_isPlayer 16 = .ok (.iconst 1, 1) := by decide +kernel
theorem dX12_isPlayer_17 : decode cX12_isPlayer 17 = .ok (.goto 4, 3) := by decide +kernel
theorem dX12_isPlayer_20 : decode cX12_isPlayer 20 = .ok (.iconst 0, 1) := by decide +kernel
theorem dX12_isPlayer_21 : decode cX12_isPlayer 21 = .ok (.ireturn, 1) := by decide +kernel
theorem dX12_would_0 : decode cX12_would 0 = .ok (.aload_n 0, 1) := by decide +kernel
theorem dX12_would_1 : decode cX12_would 1 = .ok (.invokevirtual 176, 3) := by decide +kernel
theorem dX12_would_4 : decode cX12_would 4 = .ok (.aload_n 0, 1) := by decide +kernel
theorem dX12_would_5 : decode cX12_would 5 = .ok (.iload_n 1, 1) := by decide +kernel
theorem dX12_would_6 : decode cX12_would 6 = .ok (.invokevirtual 387, 3) := by decide +kernel
theorem dX12_would_9 : decode cX12_would 9 = .ok (.ifCond .ne 9, 3) := by decide +kernel
theorem dX12_would_12 : decode cX12_would 12 = .ok (.aload_n 0, 1) := by decide +kernel
theorem dX12_would_13 : decode cX12_would 13 = .ok (.iconst 1, 1) := by decide +kernel
theorem dX12_would_14 : decode cX12_would 14 = .ok (.invokevirtual 179, 3) := by decide +kernel
theorem dX12_would_17 : decode cX12_would 17 = .ok (.ireturn, 1) := by decide +kernel
theorem dX12_would_18 : decode cX12_would 18 = .ok (.aload_n 0, 1) := by decide +kernel
theorem dX12_would_19 : decode cX12_would 19 = .ok (.aload_n 0, 1) := by decide +kernel
theorem dX12_would_20 : decode cX12_would 20 = .ok (.getfield 26, 3) := by decide +kernel
theorem dX12_would_23 : decode cX12_would 23 = .ok (.bipush 15, 2) := by decide +kernel
theorem dX12_would_25 : decode cX12_would 25 = .ok (.iaload, 1) := by decide +kernel
theorem dX12_would_26 : decode cX12_would 26 = .ok (.putfield 383, 3) := by decide +kernel
theorem dX12_would_29 : decode cX12_would 29 = .ok (.aload_n 0, 1) := by decide +kernel
theorem dX12_would_30 : decode cX12_would 30 = .ok (.iload_n 1, 1) := by decide +kernel
theorem dX12_would_31 : decode cX12_would 31 = .ok (.aload_n 0, 1) := by decide +kernel
theorem dX12_would_32 : decode cX12_would 32 = .ok (.invokevirtual 311, 3) := by decide +kernel
theorem dX12_would_35 : decode cX12_would 35 = .ok (.aload_n 0, 1) := by decide +kernel
theorem dX12_would_36 : decode cX12_would 36 = .ok (.invokevirtual 390, 3) := by decide +kernel
theorem dX12_would_39 : decode cX12_would 39 = .ok (.invokevirtual 393, 3) := by decide +kernel
theorem dX12_would_42 : decode cX12_would 42 = .ok (.ireturn, 1) := by decide +kernel
theorem dX12_winner_0 : decode cX12_winner 0 = .ok (.aload_n 0, 1) := by decide +kernel
theorem dX12_winner_1 : decode cX12_winner 1 = .ok (.invokevirtual 311, 3) := by decide +kernel
theorem dX12_winner_4 : decode cX12_winner 4 = .ok (.istore_n 3, 1) := by decide +kernel
theorem dX12_winner_5 : decode cX12_winner 5 = .ok (.aload_n 0, 1) := by decide +kernel
theorem dX12_winner_6 : decode cX12_winner 6 = .ok (.invokevirtual 390, 3) := by decide +kernel
theorem dX12_winner_9 : decode cX12_winner 9 = .ok (.istore 4, 2) := by decide +kernel
theorem dX12_winner_11 : decode cX12_winner 11 = .ok (.aload_n 0, 1) := by decide +kernel
theorem dX12_winner_12 : decode cX12_winner 12 = .ok (.aload_n 0, 1) := by decide +kernel
theorem dX12_winner_13 : decode cX12_winner 13 = .ok (.getfield 26, 3) := by decide +kernel
theorem dX12_winner_16 : decode cX12_winner 16 = .ok (.bipush 15, 2) := by decide +kernel
theorem dX12_winner_18 : decode cX12_winner 18 = .ok (.iaload, 1) := by decide +kernel
theorem dX12_winner_19 : decode cX12_winner 19 = .ok (.putfield 383, 3) := by decide +kernel
theorem dX12_winner_22 : decode cX12_winner 22 = .ok (.aload_n 0, 1) := by decide +kernel
theorem dX12_winner_23 : decode cX12_winner 23 = .ok (.iconst 0, 1) := by decide +kernel
theorem dX12_winner_24 : decode cX12_winner 24 = .ok (.putfield 397, 3) := by decide +kernel
theorem dX12_winner_27 : decode cX12_winner 27 = .ok (.aload_n 0, 1) := by decide +kernel
theorem dX12_winner_28 : decode cX12_winner 28 = .ok (.iload_n 3, 1) := by decide +kernel
theorem dX12_winner_29 : decode cX12_winner 29 = .ok (.invokevirtual 328, 3) := by decide +kernel
theorem dX12_winner_32 : decode cX12_winner 32 = .ok (.ifCond .ne 47, 3) := by decide +kernel
theorem dX12_winner_35 : decode cX12_winner 35 = .ok (.aload_n 0, 1) := by decide +kernel
theorem dX12_winner_36 : decode cX12_winner 36 = .ok (.aload_n 0, 1) := by decide +kernel
theorem dX12_winner_37 : decode cX12_winner 37 = .ok (.getfield 397, 3) := by decide +kernel
theorem dX12_winner_40 : decode cX12_winner 40 = .ok (.iconst 2, 1) := by decide +kernel
theorem dX12_winner_41 : decode cX12_winner 41 = .ok (.irem, 1) := by decide +kernel
theorem dX12_winner_42 : decode cX12_winner 42 = .ok (.ifCond .ne 7, 3) := by decide +kernel
theorem dX12_winner_45 : decode cX12_winner 45 = .ok (.iload_n 1, 1) := by decide +kernel
theorem dX12_winner_46 : decode cX12_winner 46 = .ok (.goto 4, 3) := by decide +kernel
theorem dX12_winner_49 : decode cX12_winner 49 = .ok (.iload_n 2, 1) := by decide +kernel
theorem dX12_winner_50 : decode cX12_winner 50 = .ok (.iload_n 3, 1) := by decide +kernel
theorem dX12_winner_51 : decode cX12_winner 51 = .ok (.iload 4, 2) := by decide +kernel
theorem dX12_winner_53 : decode cX12_winner 53 = .ok (.invokevirtual 393, 3) := by decide +kernel
theorem dX12_winner_56 : decode cX12_winner 56 = .ok (.istore 4, 2) := by decide +kernel
theorem dX12_winner_58 : decode cX12_winner 58 = .ok (.aload_n 0, 1) := by decide +kernel
theorem dX12_winner_59 : decode cX12_winner 59 = .ok (.iload_n 3, 1) := by decide +kernel
theorem dX12_winner_60 : decode cX12_winner 60 = .ok (.iload 4, 2) := by decide +kernel
theorem dX12_winner_62 : decode cX12_winner 62 = .ok (.invokevirtual 331, 3) := by decide +kernel
theorem dX12_winner_65 : decode cX12_winner 65 = .ok (.istore_n 3, 1) := by decide +kernel
theorem dX12_winner_66 : decode cX12_winner 66 = .ok (.aload_n 0, 1) := by decide +kernel
theorem dX12_winner_67 : decode cX12_winner 67 = .ok (.dup, 1) := by decide +kernel
theorem dX12_winner_68 : decode cX12_winner 68 = .ok (.getfield 397, 3) := by decide +kernel
theorem dX12_winner_71 : decode cX12_winner 71 = .ok (.iconst 1, 1) := by decide +kernel
theorem dX12_winner_72 : decode cX12_winner 72 = .ok (.iadd, 1) := by decide +kernel
theorem dX12_winner_73 : decode cX12_winner 73 = .ok (.putfield 397, 3) := by decide +kernel
theorem dX12_winner_76 : decode cX12_winner 76 = .ok (.goto (-49), 3) := by decide +kernel
theorem dX12_winner_79 : decode cX12_winner 79 = .ok (.aload_n 0, 1) := by decide +kernel
theorem dX12_winner_80 : decode cX12_winner 80 = .ok (.getfield 397, 3) := by decide +kernel
theorem dX12_winner_83 : decode cX12_winner 83 = .ok (.iconst 2, 1) := by decide +kernel
theorem dX12_winner_84 : decode cX12_winner 84 = .ok (.irem, 1) := by decide +kernel
theorem dX12_winner_85 : decode cX12_winner 85 = .ok (.istore 5, 2) := by decide +kernel
theorem dX12_winner_87 : decode cX12_winner 87 = .ok (.aload_n 0, 1) := by decide +kernel
theorem dX12_winner_88 : decode cX12_winner 88 = .ok (.getfield 20, 3) := by decide +kernel
theorem dX12_winner_91 : decode cX12_winner 91 = .ok (.iconst 1, 1) := by decide +kernel
theorem dX12_winner_92 : decode cX12_winner 92 = .ok (.iaload, 1) := by decide +kernel
theorem dX12_winner_93 : decode cX12_winner 93 = .ok (.iconst 1, 1) := by decide +kernel
theorem dX12_winner_94 : decode cX12_winner 94 = .ok (.if_icmp .ne 8, 3) := by decide +kernel
theorem dX12_winner_97 : decode cX12_winner 97 = .ok (.iload 5, 2) := by decide +kernel
theorem dX12_winner_99 : decode cX12_winner 99 = .ok (.goto 7, 3) := by decide +kernel
theorem dX12_winner_102 : decode cX12_winner 102 = .ok (.iconst 1, 1) := by decide +kernel
theorem dX12_winner_103 : decode cX12_winner 103 = .ok (.iload 5, 2) := by decide +kernel
theorem dX12_winner_105 : decode cX12_winner 105 = .ok (.isub, 1) := by decide +kernel
theorem dX12_winner_106 : decode cX12_winner 106 = .ok (.ireturn, 1) := by decide +kernel
theorem dX12_match_0 : decode cX12_match 0 = .ok (.aload_n 0, 1) := by decide +kernel
theorem dX12_match_1 : decode cX12_match 1 = .ok (.invokevirtual 176, 3) := by decide +kernel
theorem dX12_match_4 : decode cX12_match 4 = .ok (.aload_n 0, 1) := by decide +kernel
theorem dX12_match_5 : decode cX12_match 5 = .ok (.iload_n 1, 1) := by decide +kernel
theorem dX12_match_6 : decode cX12_match 6 = .ok (.invokevirtual 387, 3) := by decide +kernel
theorem dX12_match_9 : decode cX12_match 9 = .ok (.ifCond .eq 20, 3) := by decide +kernel
theorem dX12_match_12 : decode cX12_match 12 = .ok (.aload_n 0, 1) := by decide +kernel
theorem dX12_match_13 : decode cX12_match 13 = .ok (.iload_n 2, 1) := by decide +kernel
theorem dX12_match_14 : decode cX12_match 14 = .ok (.invokevirtual 387, 3) := by decide +kernel
theorem dX12_match_17 : decode cX12_match 17 = .ok (.ifCond .eq 12, 3) := by decide +kernel
theorem dX12_match_20 : decode cX12_match 20 = .ok (.aload_n 0, 1) := by decide +kernel
theorem dX12_match_21 : decode cX12_match 21 = .ok (.iload_n 1, 1) := by decide +kernel
theorem dX12_match_22 : decode cX12_match 22 = .ok (.iload_n 2, 1) := by decide +kernel
theorem dX12_match_23 : decode cX12_match 23 = .ok (.invokevirtual 400, 3) := by decide +kernel
theorem dX12_match_26 : decode cX12_match 26 = .ok (.goto 8, 3) := by decide +kernel
theorem dX12_match_29 : decode cX12_match 29 = .ok (.aload_n 0, 1) := by decide +kernel
theorem dX12_match_30 : decode cX12_match 30 = .ok (.iconst 1, 1) := by decide +kernel
theorem dX12_match_31 : decode cX12_match 31 = .ok (.invokevirtual 179, 3) := by decide +kernel
theorem dX12_match_34 : decode cX12_match 34 = .ok (.ireturn, 1) := by decide +kernel
theorem dX12_beats_0 : decode cX12_beats 0 = .ok (.aload_n 0, 1) := by decide +kernel
theorem dX12_beats_1 : decode cX12_beats 1 = .ok (.invokevirtual 176, 3) := by decide +kernel
theorem dX12_beats_4 : decode cX12_beats 4 = .ok (.aload_n 0, 1) := by decide +kernel
theorem dX12_beats_5 : decode cX12_beats 5 = .ok (.iload_n 1, 1) := by decide +kernel
theorem dX12_beats_6 : decode cX12_beats 6 = .ok (.invokevirtual 387, 3) := by decide +kernel
theorem dX12_beats_9 : decode cX12_beats 9 = .ok (.ifCond .ne 9, 3) := by decide +kernel
theorem dX12_beats_12 : decode cX12_beats 12 = .ok (.aload_n 0, 1) := by decide +kernel
theorem dX12_beats_13 : decode cX12_beats 13 = .ok (.iconst 1, 1) := by decide +kernel
theorem dX12_beats_14 : decode cX12_beats 14 = .ok (.invokevirtual 179, 3) := by decide +kernel
theorem dX12_beats_17 : decode cX12_beats 17 = .ok (.ireturn, 1) := by decide +kernel
theorem dX12_beats_18 : decode cX12_beats 18 = .ok (.iconst 0, 1) := by decide +kernel
theorem dX12_beats_19 : decode cX12_beats 19 = .ok (.istore_n 2, 1) := by decide +kernel
theorem dX12_beats_20 : decode cX12_beats 20 = .ok (.iconst 0, 1) := by decide +kernel
theorem dX12_beats_21 : decode cX12_beats 21 = .ok (.istore_n 3, 1) := by decide +kernel
theorem dX12_beats_22 : decode cX12_beats 22 = .ok (.iload_n 3, 1) := by decide +kernel
theorem dX12_beats_23 : decode cX12_beats 23 = .ok (.iconst 5, 1) := by decide +kernel
theorem dX12_beats_24 : decode cX12_beats 24 = .ok (.if_icmp .ge 28, 3) := by decide +kernel
theorem dX12_beats_27 : decode cX12_beats 27 = .ok (.iload_n 2, 1) := by decide +kernel
theorem dX12_beats_28 : decode cX12_beats 28 = .ok (.aload_n 0, 1) := by decide +kernel
theorem dX12_beats_29 : decode cX12_beats 29 = .ok (.iload_n 1, 1) := by decide +kernel
theorem dX12_beats_30 : decode cX12_beats 30 = .ok (.iload_n 3, 1) := by decide +kernel
theorem dX12_beats_31 : decode cX12_beats 31 = .ok (.invokevirtual 400, 3) := by decide +kernel
theorem dX12_beats_34 : decode cX12_beats 34 = .ok (.ifCond .ne 9, 3) := by decide +kernel
theorem dX12_beats_37 : decode cX12_beats 37 = .ok (.iconst 1, 1) := by decide +kernel
theorem dX12_beats_38 : decode cX12_beats 38 = .ok (.iload_n 3, 1) := by decide +kernel
theorem dX12_beats_39 : decode cX12_beats 39 = .ok (.ishl, 1) := by decide +kernel
theorem dX12_beats_40 : decode cX12_beats 40 = .ok (.goto 4, 3) := by decide +kernel
theorem dX12_beats_43 : decode cX12_beats 43 = .ok (.iconst 0, 1) := by decide +kernel
theorem dX12_beats_44 : decode cX12_beats 44 = .ok (.ior, 1) := by decide +kernel
theorem dX12_beats_45 : decode cX12_beats 45 = .ok (.istore_n 2, 1) := by decide +kernel
theorem dX12_beats_46 : decode cX12_beats 46 = .ok (.iinc 3 1, 3) := by decide +kernel
theorem dX12_beats_49 : decode cX12_beats 49 = .ok (.goto (-27), 3) := by decide +kernel
theorem dX12_beats_52 : decode cX12_beats 52 = .ok (.iload_n 2, 1) := by decide +kernel
theorem dX12_beats_53 : decode cX12_beats 53 = .ok (.ireturn, 1) := by decide +kernel
theorem dX12_matchLong_0 : decode cX12_matchLong 0 = .ok (.aload_n 0, 1) := by decide +kernel
theorem dX12_matchLong_1 : decode cX12_matchLong 1 = .ok (.invokevirtual 176, 3) := by decide +kernel
theorem dX12_matchLong_4 : decode cX12_matchLong 4 = .ok (.aload_n 0, 1) := by decide +kernel
theorem dX12_matchLong_5 : decode cX12_matchLong 5 = .ok (.iload_n 1, 1) := by decide +kernel
theorem dX12_matchLong_6 : decode cX12_matchLong 6 = .ok (.invokevirtual 387, 3) := by decide +kernel
theorem dX12_matchLong_9 : decode cX12_matchLong 9 = .ok (.ifCond .eq 11, 3) := by decide +kernel
theorem dX12_matchLong_12 : decode cX12_matchLong 12 = .ok (.aload_n 0, 1) := by decide +kernel
theorem dX12_matchLong_13 : decode cX12_matchLong 13 = .ok (.iload_n 2, 1) := by decide +kernel
theorem dX12_matchLong_14 : decode cX12_matchLong 14 = .ok (.invokevirtual 387, 3) := by decide +kernel
theorem dX12_matchLong_17 : decode cX12_matchLong 17 = .ok (.ifCond .ne 9, 3) := by decide +kernel
theorem dX12_matchLong_20 : decode cX12_matchLong 20 = .ok (.aload_n 0, 1) := by decide +kernel
theorem dX12_matchLong_21 : decode cX12_matchLong 21 = .ok (.iconst 1, 1) := by decide +kernel
theorem dX12_matchLong_22 : decode cX12_matchLong 22 = .ok (.invokevirtual 179, 3) := by decide +kernel
theorem dX12_matchLong_25 : decode cX12_matchLong 25 = .ok (.ireturn, 1) := by decide +kernel
theorem dX12_matchLong_26 : decode cX12_matchLong 26 = .ok (.aload_n 0, 1) := by decide +kernel
theorem dX12_matchLong_27 : decode cX12_matchLong 27 = .ok (.iload_n 1, 1) := by decide +kernel
theorem dX12_matchLong_28 : decode cX12_matchLong 28 = .ok (.iload_n 2, 1) := by decide +kernel
theorem dX12_matchLong_29 : decode cX12_matchLong 29 = .ok (.invokevirtual 400, 3) := by decide +kernel
theorem dX12_matchLong_32 : decode cX12_matchLong 32 = .ok (.pop, 1) := by decide +kernel
theorem dX12_matchLong_33 : decode cX12_matchLong 33 = .ok (.aload_n 0, 1) := by decide +kernel
theorem dX12_matchLong_34 : decode cX12_matchLong 34 = .ok (.getfield 397, 3) := by decide +kernel
theorem dX12_matchLong_37 : decode cX12_matchLong 37 = .ok (.ireturn, 1) := by decide +kernel
theorem dX12_note_0 : decode cX12_note 0 = .ok (.aload_n 0, 1) := by decide +kernel
theorem dX12_note_1 : decode cX12_note 1 = .ok (.getfield 196, 3) := by decide +kernel
theorem dX12_note_4 : decode cX12_note 4 = .ok (.bipush 16, 2) := by decide +kernel
theorem dX12_note_6 : decode cX12_note 6 = .ok (.if_icmp .ne 43, 3) := by decide +kernel
theorem dX12_note_9 : decode cX12_note 9 = .ok (.iconst 0, 1) := by decide +kernel
theorem dX12_note_10 : decode cX12_note 10 = .ok (.istore_n 1, 1) := by decide +kernel
theorem dX12_note_11 : decode cX12_note 11 = .ok (.iload_n 1, 1) := by decide +kernel
theorem dX12_note_12 : decode cX12_note 12 = .ok (.sipush 240, 3) := by decide +kernel
theorem dX12_note_15 : decode cX12_note 15 = .ok (.if_icmp .ge 24, 3) := by decide +kernel
theorem dX12_note_18 : decode cX12_note 18 = .ok (.aload_n 0, 1) := by decide +kernel
theorem dX12_note_19 : decode cX12_note 19 = .ok (.getfield 32, 3) := by decide +kernel
theorem dX12_note_22 : decode cX12_note 22 = .ok (.iload_n 1, 1) := by decide +kernel
theorem dX12_note_23 : decode cX12_note 23 = .ok (.aload_n 0, 1) := by decide +kernel
theorem dX12_note_24 : decode cX12_note 24 = .ok (.getfield 32, 3) := by decide +kernel
theorem dX12_note_27 : decode cX12_note 27 = .ok (.iload_n 1, 1) := by decide +kernel
theorem dX12_note_28 : decode cX12_note 28 = .ok (.bipush 16, 2) := by decide +kernel
theorem dX12_note_30 : decode cX12_note 30 = .ok (.iadd, 1) := by decide +kernel
theorem dX12_note_31 : decode cX12_note 31 = .ok (.iaload, 1) := by decide +kernel
theorem dX12_note_32 : decode cX12_note 32 = .ok (.iastore, 1) := by decide +kernel
theorem dX12_note_33 : decode cX12_note 33 = .ok (.iinc 1 1, 3) := by decide +kernel
theorem dX12_note_36 : decode cX12_note 36 = .ok (.goto (-25), 3) := by decide +kernel
theorem dX12_note_39 : decode cX12_note 39 = .ok (.aload_n 0, 1) := by decide +kernel
theorem dX12_note_40 : decode cX12_note 40 = .ok (.dup, 1) := by decide +kernel
theorem dX12_note_41 : decode cX12_note 41 = .ok (.getfield 196, 3) := by decide +kernel
theorem dX12_note_44 : decode cX12_note 44 = .ok (.iconst 1, 1) := by decide +kernel
theorem dX12_note_45 : decode cX12_note 45 = .ok (.isub, 1) := by decide +kernel
theorem dX12_note_46 : decode cX12_note 46 = .ok (.putfield 196, 3) := by decide +kernel
theorem dX12_note_49 : decode cX12_note 49 = .ok (.aload_n 0, 1) := by decide +kernel
theorem dX12_note_50 : decode cX12_note 50 = .ok (.getfield 26, 3) := by decide +kernel
theorem dX12_note_53 : decode cX12_note 53 = .ok (.iconst 0, 1) := by decide +kernel
theorem dX12_note_54 : decode cX12_note 54 = .ok (.aload_n 0, 1) := by decide +kernel
theorem dX12_note_55 : decode cX12_note 55 = .ok (.getfield 32, 3) := by decide +kernel
theorem dX12_note_58 : decode cX12_note 58 = .ok (.bipush 16, 2) := by decide +kernel
theorem dX12_note_60 : decode cX12_note 60 = .ok (.aload_n 0, 1) := by decide +kernel
theorem dX12_note_61 : decode cX12_note 61 = .ok (.getfield 196, 3) := by decide +kernel
theorem dX12_note_64 : decode cX12_note 64 = .ok (.imul, 1) := by decide +kernel
theorem dX12_note_65 : decode cX12_note 65 = .ok (.bipush 16, 2) := by decide +kernel
theorem dX12_note_67 : decode cX12_note 67 = .ok (.invokestatic 192, 3) := by decide +kernel
theorem dX12_note_70 : decode cX12_note 70 = .ok (.aload_n 0, 1) := by decide +kernel
theorem dX12_note_71 : decode cX12_note 71 = .ok (.dup, 1) := by decide +kernel
theorem dX12_note_72 : decode cX12_note 72 = .ok (.getfield 196, 3) := by decide +kernel
theorem dX12_note_75 : decode cX12_note 75 = .ok (.iconst 1, 1) := by decide +kernel
theorem dX12_note_76 : decode cX12_note 76 = .ok (.iadd, 1) := by decide +kernel
theorem dX12_note_77 : decode cX12_note 77 = .ok (.putfield 196, 3) := by decide +kernel
theorem dX12_note_80 : decode cX12_note 80 = .ok (.return_, 1) := by decide +kernel
theorem dX12_putOn_0 : decode cX12_putOn 0 = .ok (.aload_n 0, 1) := by decide +kernel
theorem dX12_putOn_1 : decode cX12_putOn 1 = .ok (.getfield 26, 3) := by decide +kernel
theorem dX12_putOn_4 : decode cX12_putOn 4 = .ok (.iconst 1, 1) := by decide +kernel
theorem dX12_putOn_5 : decode cX12_putOn 5 = .ok (.aload_n 0, 1) := by decide +kernel
theorem dX12_putOn_6 : decode cX12_putOn 6 = .ok (.getfield 26, 3) := by decide +kernel
theorem dX12_putOn_9 : decode cX12_putOn 9 = .ok (.iconst 0, 1) := by decide +kernel
theorem dX12_putOn_10 : decode cX12_putOn 10 = .ok (.iaload, 1) := by decide +kernel
theorem dX12_putOn_11 : decode cX12_putOn 11 = .ok (.iadd, 1) := by decide +kernel
theorem dX12_putOn_12 : decode cX12_putOn 12 = .ok (.iload_n 1, 1) := by decide +kernel
theorem dX12_putOn_13 : decode cX12_putOn 13 = .ok (.iastore, 1) := by decide +kernel
theorem dX12_putOn_14 : decode cX12_putOn 14 = .ok (.aload_n 0, 1) := by decide +kernel
theorem dX12_putOn_15 : decode cX12_putOn 15 = .ok (.getfield 26, 3) := by decide +kernel
theorem dX12_putOn_18 : decode cX12_putOn 18 = .ok (.iconst 0, 1) := by decide +kernel
theorem dX12_putOn_19 : decode cX12_putOn 19 = .ok (.dup2, 1) := by decide +kernel
theorem dX12_putOn_20 : decode cX12_putOn 20 = .ok (.iaload, 1) := by decide +kernel
theorem dX12_putOn_21 : decode cX12_putOn 21 = .ok (.iconst 1, 1) := by decide +kernel
theorem dX12_putOn_22 : decode cX12_putOn 22 = .ok (.iadd, 1) := by decide +kernel
theorem dX12_putOn_23 : decode cX12_putOn 23 = .ok (.iastore, 1) := by decide +kernel
theorem dX12_putOn_24 : decode cX12_putOn 24 = .ok (.return_, 1) := by decide +kernel
theorem dX12_puts_0 : decode cX12_puts 0 = .ok (.aload_n 0, 1) := by decide +kernel
theorem dX12_puts_1 : decode cX12_puts 1 = .ok (.invokevirtual 176, 3) := by decide +kernel
theorem dX12_puts_4 : decode cX12_puts 4 = .ok (.aload_n 0, 1) := by decide +kernel
theorem dX12_puts_5 : decode cX12_puts 5 = .ok (.iload_n 1, 1) := by decide +kernel
theorem dX12_puts_6 : decode cX12_puts 6 = .ok (.invokevirtual 305, 3) := by decide +kernel
theorem dX12_puts_9 : decode cX12_puts 9 = .ok (.ifCond .ne 9, 3) := by decide +kernel
theorem dX12_puts_12 : decode cX12_puts 12 = .ok (.aload_n 0, 1) := by decide +kernel
theorem dX12_puts_13 : decode cX12_puts 13 = .ok (.iconst 1, 1) := by decide +kernel
theorem dX12_puts_14 : decode cX12_puts 14 = .ok (.invokevirtual 403, 3) := by decide +kernel
theorem dX12_puts_17 : decode cX12_puts 17 = .ok (.ireturn, 1) := by decide +kernel
theorem dX12_puts_18 : decode cX12_puts 18 = .ok (.aload_n 0, 1) := by decide +kernel
theorem dX12_puts_19 : decode cX12_puts 19 = .ok (.aload_n 0, 1) := by decide +kernel
theorem dX12_puts_20 : decode cX12_puts 20 = .ok (.invokevirtual 311, 3) := by decide +kernel
theorem dX12_puts_23 : decode cX12_puts 23 = .ok (.iload_n 1, 1) := by decide +kernel
theorem dX12_puts_24 : decode cX12_puts 24 = .ok (.invokevirtual 302, 3) := by decide +kernel
theorem dX12_puts_27 : decode cX12_puts 27 = .ok (.ifCond .ne 9, 3) := by decide +kernel
theorem dX12_puts_30 : decode cX12_puts 30 = .ok (.aload_n 0, 1) := by decide +kernel
theorem dX12_puts_31 : decode cX12_puts 31 = .ok (.iconst 5, 1) := by decide +kernel
theorem dX12_puts_32 : decode cX12_puts 32 = .ok (.invokevirtual 403, 3) := by decide +kernel
theorem dX12_puts_35 : decode cX12_puts 35 = .ok (.ireturn, 1) := by decide +kernel
theorem dX12_puts_36 : decode cX12_puts 36 = .ok (.aload_n 0, 1) := by decide +kernel
theorem dX12_puts_37 : decode cX12_puts 37 = .ok (.invokevirtual 406, 3) := by decide +kernel
theorem dX12_puts_40 : decode cX12_puts 40 = .ok (.aload_n 0, 1) := by decide +kernel
theorem dX12_puts_41 : decode cX12_puts 41 = .ok (.iload_n 1, 1) := by decide +kernel
theorem dX12_puts_42 : decode cX12_puts 42 = .ok (.invokevirtual 409, 3) := by decide +kernel
theorem dX12_puts_45 : decode cX12_puts 45 = .ok (.iconst 1, 1) := by decide +kernel
theorem dX12_puts_46 : decode cX12_puts 46 = .ok (.ireturn, 1) := by decide +kernel
theorem dX12_takes_0 : decode cX12_takes 0 = .ok (.aload_n 0, 1) := by decide +kernel
theorem dX12_takes_1 : decode cX12_takes 1 = .ok (.invokevirtual 176, 3) := by decide +kernel
theorem dX12_takes_4 : decode cX12_takes 4 = .ok (.aload_n 0, 1) := by decide +kernel
theorem dX12_takes_5 : decode cX12_takes 5 = .ok (.getfield 185, 3) := by decide +kernel
theorem dX12_takes_8 : decode cX12_takes 8 = .ok (.ifCond .ne 9, 3) := by decide +kernel
theorem dX12_takes_11 : decode cX12_takes 11 = .ok (.aload_n 0, 1) := by decide +kernel
theorem dX12_takes_12 : decode cX12_takes 12 = .ok (.iconst 1, 1) := by decide +kernel
theorem dX12_takes_13 : decode cX12_takes 13 = .ok (.invokevirtual 179, 3) := by decide +kernel
theorem dX12_takes_16 : decode cX12_takes 16 = .ok (.ireturn, 1) := by decide +kernel
theorem dX12_takes_17 : decode cX12_takes 17 = .ok (.aload_n 0, 1) := by decide +kernel
theorem dX12_takes_18 : decode cX12_takes 18 = .ok (.getfield 26, 3) := by decide +kernel
theorem dX12_takes_21 : decode cX12_takes 21 = .ok (.iconst 0, 1) := by decide +kernel
theorem dX12_takes_22 : decode cX12_takes 22 = .ok (.iaload, 1) := by decide +kernel
theorem dX12_takes_23 : decode cX12_takes 23 = .ok (.ifCond .ne 10, 3) := by decide +kernel
theorem dX12_takes_26 : decode cX12_takes 26 = .ok (.aload_n 0, 1) := by decide +kernel
theorem dX12_takes_27 : decode cX12_takes 27 = .ok (.bipush 6, 2) := by decide +kernel
theorem dX12_takes_29 : decode cX12_takes 29 = .ok (.invokevirtual 179, 3) := by decide +kernel
theorem dX12_takes_32 : decode cX12_takes 32 = .ok (.ireturn, 1) := by decide +kernel
theorem dX12_takes_33 : decode cX12_takes 33 = .ok (.aload_n 0, 1) := by decide +kernel
theorem dX12_takes_34 : decode cX12_takes 34 = .ok (.invokevirtual 406, 3) := by decide +kernel
theorem dX12_takes_37 : decode cX12_takes 37 = .ok (.aload_n 0, 1) := by decide +kernel
theorem dX12_takes_38 : decode cX12_takes 38 = .ok (.invokevirtual 390, 3) := by decide +kernel
theorem dX12_takes_41 : decode cX12_takes 41 = .ok (.istore_n 1, 1) := by decide +kernel
theorem dX12_takes_42 : decode cX12_takes 42 = .ok (.aload_n 0, 1) := by decide +kernel
theorem dX12_takes_43 : decode cX12_takes 43 = .ok (.getfield 26, 3) := by decide +kernel
theorem dX12_takes_46 : decode cX12_takes 46 = .ok (.iconst 0, 1) := by decide +kernel
theorem dX12_takes_47 : decode cX12_takes 47 = .ok (.dup2, 1) := by decide +kernel
theorem dX12_takes_48 : decode cX12_takes 48 = .ok (.iaload, 1) := by decide +kernel
theorem dX12_takes_49 : decode cX12_takes 49 = .ok (.iconst 1, 1) := by decide +kernel
theorem dX12_takes_50 : decode cX12_takes 50 = .ok (.isub, 1) := by decide +kernel
theorem dX12_takes_51 : decode cX12_takes 51 = .ok (.iastore, 1) := by decide +kernel
theorem dX12_takes_52 : decode cX12_takes 52 = .ok (.aload_n 0, 1) := by decide +kernel
theorem dX12_takes_53 : decode cX12_takes 53 = .ok (.getfield 26, 3) := by decide +kernel
theorem dX12_takes_56 : decode cX12_takes 56 = .ok (.iconst 1, 1) := by decide +kernel
theorem dX12_takes_57 : decode cX12_takes 57 = .ok (.aload_n 0, 1) := by decide +kernel
theorem dX12_takes_58 : decode cX12_takes 58 = .ok (.getfield 26, 3) := by decide +kernel
theorem dX12_takes_61 : decode cX12_takes 61 = .ok (.iconst 0, 1) := by decide +kernel
theorem dX12_takes_62 : decode cX12_takes 62 = .ok (.iaload, 1) := by decide +kernel
theorem dX12_takes_63 : decode cX12_takes 63 = .ok (.iadd, 1) := by decide +kernel
theorem dX12_takes_64 : decode cX12_takes 64 = .ok (.iconst 0, 1) := by decide +kernel
theorem dX12_takes_65 : decode cX12_takes 65 = .ok (.iastore, 1) := by decide +kernel
theorem dX12_takes_66 : decode cX12_takes 66 = .ok (.iload_n 1, 1) := by decide +kernel
theorem dX12_takes_67 : decode cX12_takes 67 = .ok (.ireturn, 1) := by decide +kernel
theorem dX12_plays_0 : decode cX12_plays 0 = .ok (.aload_n 0, 1) := by decide +kernel
theorem dX12_plays_1 : decode cX12_plays 1 = .ok (.invokevirtual 176, 3) := by decide +kernel
theorem dX12_plays_4 : decode cX12_plays 4 = .ok (.aload_n 0, 1) := by decide +kernel
theorem dX12_plays_5 : decode cX12_plays 5 = .ok (.iload_n 1, 1) := by decide +kernel
theorem dX12_plays_6 : decode cX12_plays 6 = .ok (.invokevirtual 387, 3) := by decide +kernel
theorem dX12_plays_9 : decode cX12_plays 9 = .ok (.ifCond .ne 9, 3) := by decide +kernel
theorem dX12_plays_12 : decode cX12_plays 12 = .ok (.aload_n 0, 1) := by decide +kernel
theorem dX12_plays_13 : decode cX12_plays 13 = .ok (.iconst 1, 1) := by decide +kernel
theorem dX12_plays_14 : decode cX12_plays 14 = .ok (.invokevirtual 179, 3) := by decide +kernel
theorem dX12_plays_17 : decode cX12_plays 17 = .ok (.ireturn, 1) := by decide +kernel
theorem dX12_plays_18 : decode cX12_plays 18 = .ok (.aload_n 0, 1) := by decide +kernel
theorem dX12_plays_19 : decode cX12_plays 19 = .ok (.aload_n 0, 1) := by decide +kernel
theorem dX12_plays_20 : decode cX12_plays 20 = .ok (.invokevirtual 311, 3) := by decide +kernel
theorem dX12_plays_23 : decode cX12_plays 23 = .ok (.invokevirtual 328, 3) := by decide +kernel
theorem dX12_plays_26 : decode cX12_plays 26 = .ok (.ifCond .eq 10, 3) := by decide +kernel
theorem dX12_plays_29 : decode cX12_plays 29 = .ok (.aload_n 0, 1) := by decide +kernel
theorem dX12_plays_30 : decode cX12_plays 30 = .ok (.bipush 6, 2) := by decide +kernel
theorem dX12_plays_32 : decode cX12_plays 32 = .ok (.invokevirtual 179, 3) := by decide +kernel
theorem dX12_plays_35 : decode cX12_plays 35 = .ok (.ireturn, 1) := by decide +kernel
theorem dX12_plays_36 : decode cX12_plays 36 = .ok (.aload_n 0, 1) := by decide +kernel
theorem dX12_plays_37 : decode cX12_plays 37 = .ok (.invokevirtual 406, 3) := by decide +kernel
theorem dX12_plays_40 : decode cX12_plays 40 = .ok (.aload_n 0, 1) := by decide +kernel
theorem dX12_plays_41 : decode cX12_plays 41 = .ok (.aload_n 0, 1) := by decide +kernel
theorem dX12_plays_42 : decode cX12_plays 42 = .ok (.getfield 26, 3) := by decide +kernel
theorem dX12_plays_45 : decode cX12_plays 45 = .ok (.bipush 15, 2) := by decide +kernel
theorem dX12_plays_47 : decode cX12_plays 47 = .ok (.iaload, 1) := by decide +kernel
theorem dX12_plays_48 : decode cX12_plays 48 = .ok (.putfield 383, 3) := by decide +kernel
theorem dX12_plays_51 : decode cX12_plays 51 = .ok (.aload_n 0, 1) := by decide +kernel
theorem dX12_plays_52 : decode cX12_plays 52 = .ok (.iload_n 1, 1) := by decide +kernel
theorem dX12_plays_53 : decode cX12_plays 53 = .ok (.aload_n 0, 1) := by decide +kernel
theorem dX12_plays_54 : decode cX12_plays 54 = .ok (.invokevirtual 311, 3) := by decide +kernel
theorem dX12_plays_57 : decode cX12_plays 57 = .ok (.aload_n 0, 1) := by decide +kernel
theorem dX12_plays_58 : decode cX12_plays 58 = .ok (.invokevirtual 390, 3) := by decide +kernel
theorem dX12_plays_61 : decode cX12_plays 61 = .ok (.invokevirtual 393, 3) := by decide +kernel
theorem dX12_plays_64 : decode cX12_plays 64 = .ok (.istore_n 2, 1) := by decide +kernel
theorem dX12_plays_65 : decode cX12_plays 65 = .ok (.aload_n 0, 1) := by decide +kernel
theorem dX12_plays_66 : decode cX12_plays 66 = .ok (.getfield 26, 3) := by decide +kernel
theorem dX12_plays_69 : decode cX12_plays 69 = .ok (.bipush 15, 2) := by decide +kernel
theorem dX12_plays_71 : decode cX12_plays 71 = .ok (.aload_n 0, 1) := by decide +kernel
theorem dX12_plays_72 : decode cX12_plays 72 = .ok (.getfield 383, 3) := by decide +kernel
theorem dX12_plays_75 : decode cX12_plays 75 = .ok (.iastore, 1) := by decide +kernel
theorem dX12_plays_76 : decode cX12_plays 76 = .ok (.aload_n 0, 1) := by decide +kernel
theorem dX12_plays_77 : decode cX12_plays 77 = .ok (.iload_n 2, 1) := by decide +kernel
theorem dX12_plays_78 : decode cX12_plays 78 = .ok (.invokevirtual 409, 3) := by decide +kernel
theorem dX12_plays_81 : decode cX12_plays 81 = .ok (.iload_n 2, 1) := by decide +kernel
theorem dX12_plays_82 : decode cX12_plays 82 = .ok (.ireturn, 1) := by decide +kernel
theorem dX12_seed_0 : decode cX12_seed 0 = .ok (.aload_n 0, 1) := by decide +kernel
theorem dX12_seed_1 : decode cX12_seed 1 = .ok (.invokevirtual 176, 3) := by decide +kernel
theorem dX12_seed_4 : decode cX12_seed 4 = .ok (.aload_n 0, 1) := by decide +kernel
theorem dX12_seed_5 : decode cX12_seed 5 = .ok (.getfield 185, 3) := by decide +kernel
theorem dX12_seed_8 : decode cX12_seed 8 = .ok (.ifCond .ne 9, 3) := by decide +kernel
theorem dX12_seed_11 : decode cX12_seed 11 = .ok (.aload_n 0, 1) := by decide +kernel
theorem dX12_seed_12 : decode cX12_seed 12 = .ok (.iconst 1, 1) := by decide +kernel
theorem dX12_seed_13 : decode cX12_seed 13 = .ok (.invokevirtual 403, 3) := by decide +kernel
theorem dX12_seed_16 : decode cX12_seed 16 = .ok (.ireturn, 1) := by decide +kernel
theorem dX12_seed_17 : decode cX12_seed 17 = .ok (.iload_n 1, 1) := by decide +kernel
theorem dX12_seed_18 : decode cX12_seed 18 = .ok (.iconst 0, 1) := by decide +kernel
theorem dX12_seed_19 : decode cX12_seed 19 = .ok (.ldc_w 412, 3) := by decide +kernel
theorem dX12_seed_22 : decode cX12_seed 22 = .ok (.invokestatic 168, 3) := by decide +kernel
theorem dX12_seed_25 : decode cX12_seed 25 = .ok (.ifCond .ne 9, 3) := by decide +kernel
theorem dX12_seed_28 : decode cX12_seed 28 = .ok (.aload_n 0, 1) := by decide +kernel
theorem dX12_seed_29 : decode cX12_seed 29 = .ok (.iconst 2, 1) := by decide +kernel
theorem dX12_seed_30 : decode cX12_seed 30 = .ok (.invokevirtual 403, 3) := by decide +kernel
theorem dX12_seed_33 : decode cX12_seed 33 = .ok (.ireturn, 1) := by decide +kernel
theorem dX12_seed_34 : decode cX12_seed 34 = .ok (.aload_n 0, 1) := by decide +kernel
theorem dX12_seed_35 : decode cX12_seed 35 = .ok (.getfield 26, 3) := by decide +kernel
theorem dX12_seed_38 : decode cX12_seed 38 = .ok (.bipush 15, 2) := by decide +kernel
theorem dX12_seed_40 : decode cX12_seed 40 = .ok (.iload_n 1, 1) := by decide +kernel
theorem dX12_seed_41 : decode cX12_seed 41 = .ok (.iastore, 1) := by decide +kernel
theorem dX12_seed_42 : decode cX12_seed 42 = .ok (.iconst 1, 1) := by decide +kernel
theorem dX12_seed_43 : decode cX12_seed 43 = .ok (.ireturn, 1) := by decide +kernel
theorem dX12_undo_0 : decode cX12_undo 0 = .ok (.aload_n 0, 1) := by decide +kernel
theorem dX12_undo_1 : decode cX12_undo 1 = .ok (.invokevirtual 176, 3) := by decide +kernel
theorem dX12_undo_4 : decode cX12_undo 4 = .ok (.aload_n 0, 1) := by decide +kernel
theorem dX12_undo_5 : decode cX12_undo 5 = .ok (.getfield 196, 3) := by decide +kernel
theorem dX12_undo_8 : decode cX12_undo 8 = .ok (.ifCond .ne 10, 3) := by decide +kernel
theorem dX12_undo_11 : decode cX12_undo 11 = .ok (.aload_n 0, 1) := by decide +kernel
theorem dX12_undo_12 : decode cX12_undo 12 = .ok (.bipush 6, 2) := by decide +kernel
theorem dX12_undo_14 : decode cX12_undo 14 = .ok (.invokevirtual 403, 3) := by decide +kernel
theorem dX12_undo_17 : decode cX12_undo 17 = .ok (.ireturn, 1) := by decide +kernel
theorem dX12_undo_18 : decode cX12_undo 18 = .ok (.aload_n 0, 1) := by decide +kernel
theorem dX12_undo_19 : decode cX12_undo 19 = .ok (.dup, 1) := by decide +kernel
theorem dX12_undo_20 : decode cX12_undo 20 = .ok (.getfield 196, 3) := by decide +kernel
theorem dX12_undo_23 : decode cX12_undo 23 = .ok (.iconst 1, 1) := by decide +kernel
theorem dX12_undo_24 : decode cX12_undo 24 = .ok (.isub, 1) := by decide +kernel
theorem dX12_undo_25 : decode cX12_undo 25 = .ok (.putfield 196, 3) := by decide +kernel
theorem dX12_undo_28 : decode cX12_undo 28 = .ok (.aload_n 0, 1) := by decide +kernel
theorem dX12_undo_29 : decode cX12_undo 29 = .ok (.getfield 32, 3) := by decide +kernel
theorem dX12_undo_32 : decode cX12_undo 32 = .ok (.bipush 16, 2) := by decide +kernel
theorem dX12_undo_34 : decode cX12_undo 34 = .ok (.aload_n 0, 1) := by decide +kernel
theorem dX12_undo_35 : decode cX12_undo 35 = .ok (.getfield 196, 3) := by decide +kernel
theorem dX12_undo_38 : decode cX12_undo 38 = .ok (.imul, 1) := by decide +kernel
theorem dX12_undo_39 : decode cX12_undo 39 = .ok (.aload_n 0, 1) := by decide +kernel
theorem dX12_undo_40 : decode cX12_undo 40 = .ok (.getfield 26, 3) := by decide +kernel
theorem dX12_undo_43 : decode cX12_undo 43 = .ok (.iconst 0, 1) := by decide +kernel
theorem dX12_undo_44 : decode cX12_undo 44 = .ok (.bipush 16, 2) := by decide +kernel
theorem dX12_undo_46 : decode cX12_undo 46 = .ok (.invokestatic 192, 3) := by decide +kernel
theorem dX12_undo_49 : decode cX12_undo 49 = .ok (.iconst 1, 1) := by decide +kernel
theorem dX12_undo_50 : decode cX12_undo 50 = .ok (.ireturn, 1) := by decide +kernel
theorem dX12_image_0 : decode cX12_image 0 = .ok (.aload_n 0, 1) := by decide +kernel
theorem dX12_image_1 : decode cX12_image 1 = .ok (.invokevirtual 176, 3) := by decide +kernel
theorem dX12_image_4 : decode cX12_image 4 = .ok (.aload_n 0, 1) := by decide +kernel
theorem dX12_image_5 : decode cX12_image 5 = .ok (.getfield 185, 3) := by decide +kernel
theorem dX12_image_8 : decode cX12_image 8 = .ok (.ifCond .ne 9, 3) := by decide +kernel
theorem dX12_image_11 : decode cX12_image 11 = .ok (.aload_n 0, 1) := by decide +kernel
theorem dX12_image_12 : decode cX12_image 12 = .ok (.iconst 1, 1) := by decide +kernel
theorem dX12_image_13 : decode cX12_image 13 = .ok (.invokevirtual 179, 3) := by decide +kernel
theorem dX12_image_16 : decode cX12_image 16 = .ok (.ireturn, 1) := by decide +kernel
theorem dX12_image_17 : decode cX12_image 17 = .ok (.aload_n 0, 1) := by decide +kernel
theorem dX12_image_18 : decode cX12_image 18 = .ok (.getfield 199, 3) := by decide +kernel
theorem dX12_image_21 : decode cX12_image 21 = .ok (.iconst 3, 1) := by decide +kernel
theorem dX12_image_22 : decode cX12_image 22 = .ok (.if_icmp .ne 9, 3) := by decide +kernel
theorem dX12_image_25 : decode cX12_image 25 = .ok (.aload_n 0, 1) := by decide +kernel
theorem dX12_image_26 : decode cX12_image 26 = .ok (.iconst 3, 1) := by decide +kernel
theorem dX12_image_27 : decode cX12_image 27 = .ok (.invokevirtual 179, 3) := by decide +kernel
theorem dX12_image_30 : decode cX12_image 30 = .ok (.ireturn, 1) := by decide +kernel
theorem dX12_image_31 : decode cX12_image 31 = .ok (.aload_n 0, 1) := by decide +kernel
theorem dX12_image_32 : decode cX12_image 32 = .ok (.getfield 26, 3) := by decide +kernel
theorem dX12_image_35 : decode cX12_image 35 = .ok (.iconst 0, 1) := by decide +kernel
theorem dX12_image_36 : decode cX12_image 36 = .ok (.aload_n 0, 1) := by decide +kernel
theorem dX12_image_37 : decode cX12_image 37 = .ok (.getfield 35, 3) := by decide +kernel
theorem dX12_image_40 : decode cX12_image 40 = .ok (.bipush 16, 2) := by decide +kernel
theorem dX12_image_42 : decode cX12_image 42 = .ok (.aload_n 0, 1) := by decide +kernel
theorem dX12_image_43 : decode cX12_image 43 = .ok (.getfield 199, 3) := by decide +kernel
theorem dX12_image_46 : decode cX12_image 46 = .ok (.imul, 1) := by decide +kernel
theorem dX12_image_47 : decode cX12_image 47 = .ok (.bipush 16, 2) := by decide +kernel
theorem dX12_image_49 : decode cX12_image 49 = .ok (.invokestatic 192, 3) := by decide +kernel
theorem dX12_image_52 : decode cX12_image 52 = .ok (.aload_n 0, 1) := by decide +kernel
theorem dX12_image_53 : decode cX12_image 53 = .ok (.dup, 1) := by decide +kernel
theorem dX12_image_54 : decode cX12_image 54 = .ok (.getfield 199, 3) := by decide +kernel
theorem dX12_image_57 : decode cX12_image 57 = .ok (.iconst 1, 1) := by decide +kernel
theorem dX12_image_58 : decode cX12_image 58 = .ok (.iadd, 1) := by decide +kernel
theorem dX12_image_59 : decode cX12_image 59 = .ok (.putfield 199, 3) := by decide +kernel
theorem dX12_image_62 : decode cX12_image 62 = .ok (.aload_n 0, 1) := by decide +kernel
theorem dX12_image_63 : decode cX12_image 63 = .ok (.getfield 199, 3) := by decide +kernel
theorem dX12_image_66 : decode cX12_image 66 = .ok (.iconst 1, 1) := by decide +kernel
theorem dX12_image_67 : decode cX12_image 67 = .ok (.isub, 1) := by decide +kernel
theorem dX12_image_68 : decode cX12_image 68 = .ok (.ireturn, 1) := by decide +kernel
theorem dX12_back_0 : decode cX12_back 0 = .ok (.aload_n 0, 1) := by decide +kernel
theorem dX12_back_1 : decode cX12_back 1 = .ok (.invokevirtual 176, 3) := by decide +kernel
theorem dX12_back_4 : decode cX12_back 4 = .ok (.iload_n 1, 1) := by decide +kernel
theorem dX12_back_5 : decode cX12_back 5 = .ok (.iconst 0, 1) := by decide +kernel
theorem dX12_back_6 : decode cX12_back 6 = .ok (.aload_n 0, 1) := by decide +kernel
theorem dX12_back_7 : decode cX12_back 7 = .ok (.getfield 199, 3) := by decide +kernel
theorem dX12_back_10 : decode cX12_back 10 = .ok (.iconst 1, 1) := by decide +kernel
theorem dX12_back_11 : decode cX12_back 11 = .ok (.isub, 1) := by decide +kernel
theorem dX12_back_12 : decode cX12_back 12 = .ok (.invokestatic 168, 3) := by decide +kernel
theorem dX12_back_15 : decode cX12_back 15 = .ok (.ifCond .ne 9, 3) := by decide +kernel
theorem dX12_back_18 : decode cX12_back 18 = .ok (.aload_n 0, 1) := by decide +kernel
theorem dX12_back_19 : decode cX12_back 19 = .ok (.iconst 1, 1) := by decide +kernel
theorem dX12_back_20 : decode cX12_back 20 = .ok (.invokevirtual 403, 3) := by decide +kernel
theorem dX12_back_23 : decode cX12_back 23 = .ok (.ireturn, 1) := by decide +kernel
theorem dX12_back_24 : decode cX12_back 24 = .ok (.aload_n 0, 1) := by decide +kernel
theorem dX12_back_25 : decode cX12_back 25 = .ok (.getfield 35, 3) := by decide +kernel
theorem dX12_back_28 : decode cX12_back 28 = .ok (.bipush 16, 2) := by decide +kernel
theorem dX12_back_30 : decode cX12_back 30 = .ok (.iload_n 1, 1) := by decide +kernel
theorem dX12_back_31 : decode cX12_back 31 = .ok (.imul, 1) := by decide +kernel
theorem dX12_back_32 : decode cX12_back 32 = .ok (.aload_n 0, 1) := by decide +kernel
theorem dX12_back_33 : decode cX12_back 33 = .ok (.getfield 26, 3) := by decide +kernel
theorem dX12_back_36 : decode cX12_back 36 = .ok (.iconst 0, 1) := by decide +kernel
theorem dX12_back_37 : decode cX12_back 37 = .ok (.bipush 16, 2) := by decide +kernel
theorem dX12_back_39 : decode cX12_back 39 = .ok (.invokestatic 192, 3) := by decide +kernel
theorem dX12_back_42 : decode cX12_back 42 = .ok (.aload_n 0, 1) := by decide +kernel
theorem dX12_back_43 : decode cX12_back 43 = .ok (.iconst 0, 1) := by decide +kernel
theorem dX12_back_44 : decode cX12_back 44 = .ok (.putfield 196, 3) := by decide +kernel
theorem dX12_back_47 : decode cX12_back 47 = .ok (.iconst 1, 1) := by decide +kernel
theorem dX12_back_48 : decode cX12_back 48 = .ok (.ireturn, 1) := by decide +kernel
theorem dX12_led_0 : decode cX12_led 0 = .ok (.aload_n 0, 1) := by decide +kernel
theorem dX12_led_1 : decode cX12_led 1 = .ok (.getfield 185, 3) := by decide +kernel
theorem dX12_led_4 : decode cX12_led 4 = .ok (.ifCond .eq 33, 3) := by decide +kernel
theorem dX12_led_7 : decode cX12_led 7 = .ok (.iload_n 1, 1) := by decide +kernel
theorem dX12_led_8 : decode cX12_led 8 = .ok (.iconst 0, 1) := by decide +kernel
theorem dX12_led_9 : decode cX12_led 9 = .ok (.aload_n 0, 1) := by decide +kernel
theorem dX12_led_10 : decode cX12_led 10 = .ok (.getfield 26, 3) := by decide +kernel
theorem dX12_led_13 : decode cX12_led 13 = .ok (.iconst 0, 1) := by decide +kernel
theorem dX12_led_14 : decode cX12_led 14 = .ok (.iaload, 1) := by decide +kernel
theorem dX12_led_15 : decode cX12_led 15 = .ok (.iconst 1, 1) := by decide +kernel
theorem dX12_led_16 : decode cX12_led 16 = .ok (.isub, 1) := by decide +kernel
theorem dX12_led_17 : decode cX12_led 17 = .ok (.invokestatic 168, 3) := by decide +kernel
theorem dX12_led_20 : decode cX12_led 20 = .ok (.ifCond .eq 17, 3) := by decide +kernel
theorem dX12_led_23 : decode cX12_led 23 = .ok (.aload_n 0, 1) := by decide +kernel
theorem dX12_led_24 : decode cX12_led 24 = .ok (.iconst 0, 1) := by decide +kernel
theorem dX12_led_25 : decode cX12_led 25 = .ok (.putfield 85, 3) := by decide +kernel
theorem dX12_led_28 : decode cX12_led 28 = .ok (.aload_n 0, 1) := by decide +kernel
theorem dX12_led_29 : decode cX12_led 29 = .ok (.getfield 26, 3) := by decide +kernel
theorem dX12_led_32 : decode cX12_led 32 = .ok (.iconst 1, 1) := by decide +kernel
theorem dX12_led_33 : decode cX12_led 33 = .ok (.iload_n 1, 1) := by decide +kernel
theorem dX12_led_34 : decode cX12_led 34 = .ok (.iadd, 1) := by decide +kernel
theorem dX12_led_35 : decode cX12_led 35 = .ok (.iaload, 1) := by decide +kernel
theorem dX12_led_36 : decode cX12_led 36 = .ok (.ireturn, 1) := by decide +kernel
theorem dX12_led_37 : decode cX12_led 37 = .ok (.aload_n 0, 1) := by decide +kernel
theorem dX12_led_38 : decode cX12_led 38 = .ok (.iconst 1, 1) := by decide +kernel
theorem dX12_led_39 : decode cX12_led 39 = .ok (.putfield 85, 3) := by decide +kernel
theorem dX12_led_42 : decode cX12_led 42 = .ok (.iconst 0, 1) := by decide +kernel
theorem dX12_led_43 : decode cX12_led 43 = .ok (.ireturn, 1) := by decide +kernel
theorem dX12_told_0 : decode cX12_told 0 = .ok (.aload_n 0, 1) := by decide +kernel
theorem dX12_told_1 : decode cX12_told 1 = .ok (.iconst 0, 1) := by decide +kernel
theorem dX12_told_2 : decode cX12_told 2 = .ok (.putfield 85, 3) := by decide +kernel
theorem dX12_told_5 : decode cX12_told 5 = .ok (.iload_n 1, 1) := by decide +kernel
theorem dX12_told_6 : decode cX12_told 6 = .ok (.bipush 11, 2) := by decide +kernel
theorem dX12_told_8 : decode cX12_told 8 = .ok (.if_icmp .ne 8, 3) := by decide +kernel
theorem dX12_told_11 : decode cX12_told 11 = .ok (.aload_n 0, 1) := by decide +kernel
theorem dX12_told_12 : decode cX12_told 12 = .ok (.getfield 91, 3) := by decide +kernel
theorem dX12_told_15 : decode cX12_told 15 = .ok (.ireturn, 1) := by decide +kernel
theorem dX12_told_16 : decode cX12_told 16 = .ok (.aload_n 0, 1) := by decide +kernel
theorem dX12_told_17 : decode cX12_told 17 = .ok (.getfield 185, 3) := by decide +kernel
theorem dX12_told_20 : decode cX12_told 20 = .ok (.ifCond .ne 19, 3) := by decide +kernel
theorem dX12_told_23 : decode cX12_told 23 = .ok (.iload_n 1, 1) := by decide +kernel
theorem dX12_told_24 : decode cX12_told 24 = .ok (.iconst 0, 1) := by decide +kernel
theorem dX12_told_25 : decode cX12_told 25 = .ok (.bipush 10, 2) := by decide +kernel
theorem dX12_told_27 : decode cX12_told 27 = .ok (.invokestatic 168, 3) := by decide +kernel
theorem dX12_told_30 : decode cX12_told 30 = .ok (.ifCond .eq 7, 3) := by decide +kernel
theorem dX12_told_33 : decode cX12_told 33 = .ok (.iconst 0, 1) := by decide +kernel
theorem dX12_told_34 : decode cX12_told 34 = .ok (.goto 4, 3) := by decide +kernel
theorem dX12_told_37 : decode cX12_told 37 = .ok (.iconst (-1), 1) := by decide +kernel
theorem dX12_told_38 : decode cX12_told 38 = .ok (.ireturn, 1) := by decide +kernel
theorem dX12_told_39 : decode cX12_told 39 = .ok (.iload_n 1, 1) := by decide +kernel
theorem dX12_told_40 : decode cX12_told 40 = .ok (.tableswitch 137 0 10 #[60, 67, 74, 81, 89, 96, 103, 110, 119, 127, 132], 60) := by decide +kernel
theorem dX12_told_100 : decode cX12_told 100 = .ok (.aload_n 0, 1) := by decide +kernel
theorem dX12_told_101 : decode cX12_told 101 = .ok (.getfield 20, 3) := by decide +kernel
theorem dX12_told_104 : decode cX12_told 104 = .ok (.iconst 3, 1) := by decide +kernel
theorem dX12_told_105 : decode cX12_told 105 = .ok (.iaload, 1) := by decide +kernel
theorem dX12_told_106 : decode cX12_told 106 = .ok (.ireturn, 1) := by decide +kernel
theorem dX12_told_107 : decode cX12_told 107 = .ok (.aload_n 0, 1) := by decide +kernel
theorem dX12_told_108 : decode cX12_told 108 = .ok (.getfield 20, 3) := by decide +kernel
theorem dX12_told_111 : decode cX12_told 111 = .ok (.iconst 4, 1) := by decide +kernel
theorem dX12_told_112 : decode cX12_told 112 = .ok (.iaload, 1) := by decide +kernel
theorem dX12_told_113 : decode cX12_told 113 = .ok (.ireturn, 1) := by decide +kernel
theorem dX12_told_114 : decode cX12_told 114 = .ok (.aload_n 0, 1) := by decide +kernel
theorem dX12_told_115 : decode cX12_told 115 = .ok (.getfield 20, 3) := by decide +kernel
theorem dX12_told_118 : decode cX12_told 118 = .ok (.iconst 5, 1) := by decide +kernel
theorem dX12_told_119 : decode cX12_told 119 = .ok (.iaload, 1) := by decide +kernel
theorem dX12_told_120 : decode cX12_told 120 = .ok (.ireturn, 1) := by decide +kernel
theorem dX12_told_121 : decode cX12_told 121 = .ok (.aload_n 0, 1) := by decide +kernel
theorem dX12_told_122 : decode cX12_told 122 = .ok (.getfield 20, 3) := by decide +kernel
theorem dX12_told_125 : decode cX12_told 125 = .ok (.bipush 6, 2) := by decide +kernel
theorem dX12_told_127 : decode cX12_told 127 = .ok (.iaload, 1) := by decide +kernel
theorem dX12_told_128 : decode cX12_told 128 = .ok (.ireturn, 1) := by decide +kernel
theorem dX12_told_129 : decode cX12_told 129 = .ok (.aload_n 0, 1) := by decide +kernel
theorem dX12_told_130 : decode cX12_told 130 = .ok (.getfield 20, 3) := by decide +kernel
theorem dX12_told_133 : decode cX12_told 133 = .ok (.iconst 1, 1) := by decide +kernel
theorem dX12_told_134 : decode cX12_told 134 = .ok (.iaload, 1) := by decide +kernel
theorem dX12_told_135 : decode cX12_told 135 = .ok (.ireturn, 1) := by decide +kernel
theorem dX12_told_136 : decode cX12_told 136 = .ok (.aload_n 0, 1) := by decide +kernel
theorem dX12_told_137 : decode cX12_told 137 = .ok (.getfield 20, 3) := by decide +kernel
theorem dX12_told_140 : decode cX12_told 140 = .ok (.iconst 2, 1) := by decide +kernel
theorem dX12_told_141 : decode cX12_told 141 = .ok (.iaload, 1) := by decide +kernel
theorem dX12_told_142 : decode cX12_told 142 = .ok (.ireturn, 1) := by decide +kernel
theorem dX12_told_143 : decode cX12_told 143 = .ok (.aload_n 0, 1) := by decide +kernel
theorem dX12_told_144 : decode cX12_told 144 = .ok (.getfield 26, 3) := by decide +kernel
theorem dX12_told_147 : decode cX12_told 147 = .ok (.iconst 0, 1) := by decide +kernel
theorem dX12_told_148 : decode cX12_told 148 = .ok (.iaload, 1) := by decide +kernel
theorem dX12_told_149 : decode cX12_told 149 = .ok (.ireturn, 1) := by decide +kernel
theorem dX12_told_150 : decode cX12_told 150 = .ok (.aload_n 0, 1) := by decide +kernel
theorem dX12_told_151 : decode cX12_told 151 = .ok (.getfield 26, 3) := by decide +kernel
theorem dX12_told_154 : decode cX12_told 154 = .ok (.iconst 0, 1) := by decide +kernel
theorem dX12_told_155 : decode cX12_told 155 = .ok (.iaload, 1) := by decide +kernel
theorem dX12_told_156 : decode cX12_told 156 = .ok (.iconst 2, 1) := by decide +kernel
theorem dX12_told_157 : decode cX12_told 157 = .ok (.irem, 1) := by decide +kernel
theorem dX12_told_158 : decode cX12_told 158 = .ok (.ireturn, 1) := by decide +kernel
theorem dX12_told_159 : decode cX12_told 159 = .ok (.aload_n 0, 1) := by decide +kernel
theorem dX12_told_160 : decode cX12_told 160 = .ok (.getfield 26, 3) := by decide +kernel
theorem dX12_told_163 : decode cX12_told 163 = .ok (.bipush 15, 2) := by decide +kernel
theorem dX12_told_165 : decode cX12_told 165 = .ok (.iaload, 1) := by decide +kernel
theorem dX12_told_166 : decode cX12_told 166 = .ok (.ireturn, 1) := by decide +kernel
theorem dX12_told_167 : decode cX12_told 167 = .ok (.aload_n 0, 1) := by decide +kernel
theorem dX12_told_168 : decode cX12_told 168 = .ok (.getfield 196, 3) := by decide +kernel
theorem dX12_told_171 : decode cX12_told 171 = .ok (.ireturn, 1) := by decide +kernel
theorem dX12_told_172 : decode cX12_told 172 = .ok (.aload_n 0, 1) := by decide +kernel
theorem dX12_told_173 : decode cX12_told 173 = .ok (.getfield 199, 3) := by decide +kernel
theorem dX12_told_176 : decode cX12_told 176 = .ok (.ireturn, 1) := by decide +kernel
theorem dX12_told_177 : decode cX12_told 177 = .ok (.iconst (-1), 1) := by decide +kernel
theorem dX12_told_178 : decode cX12_told 178 = .ok (.ireturn, 1) := by decide +kernel
theorem dX12_trouble_0 : decode cX12_trouble 0 = .ok (.aload_n 0, 1) := by decide +kernel
theorem dX12_trouble_1 : decode cX12_trouble 1 = .ok (.iconst 0, 1) := by decide +kernel
theorem dX12_trouble_2 : decode cX12_trouble 2 = .ok (.putfield 85, 3) := by decide +kernel
theorem dX12_trouble_5 : decode cX12_trouble 5 = .ok (.aload_n 0, 1) := by decide +kernel
theorem dX12_trouble_6 : decode cX12_trouble 6 = .ok (.getfield 88, 3) := by decide +kernel
theorem dX12_trouble_9 : decode cX12_trouble 9 = .ok (.ireturn, 1) := by decide +kernel
