theorem dX11_in_0 : decode cX11_in 0 = .ok (.iload_n 0, 1) := by decide +kernel
theorem dX11_in_1 : decode cX11_in 1 = .ok (.iload_n 1, 1) := by decide +kernel
theorem dX11_in_2 : decode cX11_in 2 = .ok (.if_icmp .lt 12, 3) := by decide +kernel
theorem dX11_in_5 : decode cX11_in 5 = .ok (.iload_n 0, 1) := by decide +kernel
theorem dX11_in_6 : decode cX11_in 6 = .ok (.iload_n 2, 1) := by decide +kernel
theorem dX11_in_7 : decode cX11_in 7 = .ok (.if_icmp .gt 7, 3) := by decide +kernel
theorem dX11_in_10 : decode cX11_in 10 = .ok (.iconst 1, 1) := by decide +kernel
theorem dX11_in_11 : decode cX11_in 11 = .ok (.goto 4, 3) := by decide +kernel
theorem dX11_in_14 : decode cX11_in 14 = .ok (.iconst 0, 1) := by decide +kernel
theorem dX11_in_15 : decode cX11_in 15 = .ok (.ireturn, 1) := by decide +kernel
theorem dX11_has_0 : decode cX11_has 0 = .ok (.iload_n 0, 1) := by decide +kernel
theorem dX11_has_1 : decode cX11_has 1 = .ok (.iload_n 1, 1) := by decide +kernel
theorem dX11_has_2 : decode cX11_has 2 = .ok (.ishr, 1) := by decide +kernel
theorem dX11_has_3 : decode cX11_has 3 = .ok (.iconst 1, 1) := by decide +kernel
theorem dX11_has_4 : decode cX11_has 4 = .ok (.iand, 1) := by decide +kernel
theorem dX11_has_5 : decode cX11_has 5 = .ok (.iconst 1, 1) := by decide +kernel
theorem dX11_has_6 : decode cX11_has 6 = .ok (.if_icmp .ne 7, 3) := by decide +kernel
theorem dX11_has_9 : decode cX11_has 9 = .ok (.iconst 1, 1) := by decide +kernel
theorem dX11_has_10 : decode cX11_has 10 = .ok (.goto 4, 3) := by decide +kernel
theorem dX11_has_13 : decode cX11_has 13 = .ok (.iconst 0, 1) := by decide +kernel
theorem dX11_has_14 : decode cX11_has 14 = .ok (.ireturn, 1) := by decide +kernel
theorem dX11_apart_0 : decode cX11_apart 0 = .ok (.iload_n 0, 1) := by decide +kernel
theorem dX11_apart_1 : decode cX11_apart 1 = .ok (.iload_n 1, 1) := by decide +kernel
theorem dX11_apart_2 : decode cX11_apart 2 = .ok (.if_icmp .le 9, 3) := by decide +kernel
theorem dX11_apart_5 : decode cX11_apart 5 = .ok (.iload_n 0, 1) := by decide +kernel
theorem dX11_apart_6 : decode cX11_apart 6 = .ok (.iload_n 1, 1) := by decide +kernel
theorem dX11_apart_7 : decode cX11_apart 7 = .ok (.isub, 1) := by decide +kernel
theorem dX11_apart_8 : decode cX11_apart 8 = .ok (.goto 6, 3) := by decide +kernel
theorem dX11_apart_11 : decode cX11_apart 11 = .ok (.iload_n 1, 1) := by decide +kernel
theorem dX11_apart_12 : decode cX11_apart 12 = .ok (.iload_n 0, 1) := by decide +kernel
theorem dX11_apart_13 : decode cX11_apart 13 = .ok (.isub, 1) := by decide +kernel
theorem dX11_apart_14 : decode cX11_apart 14 = .ok (.ireturn, 1) := by decide +kernel
theorem dX11_init_0 : decode cX11_init 0 = .ok (.aload_n 0, 1) := by decide +kernel
theorem dX11_init_1 : decode cX11_init 1 = .ok (.invokespecial 3, 3) := by decide +kernel
theorem dX11_init_4 : decode cX11_init 4 = .ok (.aload_n 0, 1) := by decide +kernel
theorem dX11_init_5 : decode cX11_init 5 = .ok (.sipush 400, 3) := by decide +kernel
theorem dX11_init_8 : decode cX11_init 8 = .ok (.newarray .int, 2) := by decide +kernel
theorem dX11_init_10 : decode cX11_init 10 = .ok (.putfield 9, 3) := by decide +kernel
theorem dX11_init_13 : decode cX11_init 13 = .ok (.aload_n 0, 1) := by decide +kernel
theorem dX11_init_14 : decode cX11_init 14 = .ok (.bipush 48, 2) := by decide +kernel
theorem dX11_init_16 : decode cX11_init 16 = .ok (.newarray .int, 2) := by decide +kernel
theorem dX11_init_18 : decode cX11_init 18 = .ok (.putfield 13, 3) := by decide +kernel
theorem dX11_init_21 : decode cX11_init 21 = .ok (.aload_n 0, 1) := by decide +kernel
theorem dX11_init_22 : decode cX11_init 22 = .ok (.bipush 8, 2) := by decide +kernel
theorem dX11_init_24 : decode cX11_init 24 = .ok (.newarray .int, 2) := by decide +kernel
theorem dX11_init_26 : decode cX11_init 26 = .ok (.putfield 16, 3) := by decide +kernel
theorem dX11_init_29 : decode cX11_init 29 = .ok (.aload_n 0, 1) := by decide +kernel
theorem dX11_init_30 : decode cX11_init 30 = .ok (.bipush 8, 2) := by decide +kernel
theorem dX11_init_32 : decode cX11_init 32 = .ok (.newarray .int, 2) := by decide +kernel
theorem dX11_init_34 : decode cX11_init 34 = .ok (.putfield 19, 3) := by decide +kernel
theorem dX11_init_37 : decode cX11_init 37 = .ok (.aload_n 0, 1) := by decide +kernel
theorem dX11_init_38 : decode cX11_init 38 = .ok (.bipush 8, 2) := by decide +kernel
theorem dX11_init_40 : decode cX11_init 40 = .ok (.newarray .long, 2) := by decide +kernel
theorem dX11_init_42 : decode cX11_init 42 = .ok (.putfield 22, 3) := by decide +kernel
theorem dX11_init_45 : decode cX11_init 45 = .ok (.aload_n 0, 1) := by decide +kernel
theorem dX11_init_46 : decode cX11_init 46 = .ok (.sipush 180, 3) := by decide +kernel
theorem dX11_init_49 : decode cX11_init 49 = .ok (.newarray .int, 2) := by decide +kernel
theorem dX11_init_51 : decode cX11_init 51 = .ok (.putfield 26, 3) := by decide +kernel
theorem dX11_init_54 : decode cX11_init 54 = .ok (.aload_n 0, 1) := by decide +kernel
theorem dX11_init_55 : decode cX11_init 55 = .ok (.iconst 5, 1) := by decide +kernel
theorem dX11_init_56 : decode cX11_init 56 = .ok (.newarray .int, 2) := by decide +kernel
theorem dX11_init_58 : decode cX11_init 58 = .ok (.putfield 29, 3) := by decide +kernel
theorem dX11_init_61 : decode cX11_init 61 = .ok (.aload_n 0, 1) := by decide +kernel
theorem dX11_init_62 : decode cX11_init 62 = .ok (.sipush 231, 3) := by decide +kernel
theorem dX11_init_65 : decode cX11_init 65 = .ok (.newarray .int, 2) := by decide +kernel
theorem dX11_init_67 : decode cX11_init 67 = .ok (.putfield 32, 3) := by decide +kernel
theorem dX11_init_70 : decode cX11_init 70 = .ok (.aload_n 0, 1) := by decide +kernel
theorem dX11_init_71 : decode cX11_init 71 = .ok (.iconst 2, 1) := by decide +kernel
theorem dX11_init_72 : decode cX11_init 72 = .ok (.newarray .int, 2) := by decide +kernel
theorem dX11_init_74 : decode cX11_init 74 = .ok (.putfield 35, 3) := by decide +kernel
theorem dX11_init_77 : decode cX11_init 77 = .ok (.aload_n 0, 1) := by decide +kernel
theorem dX11_init_78 : decode cX11_init 78 = .ok (.bipush 8, 2) := by decide +kernel
theorem dX11_init_80 : decode cX11_init 80 = .ok (.newarray .int, 2) := by decide +kernel
theorem dX11_init_82 : decode cX11_init 82 = .ok (.putfield 38, 3) := by decide +kernel
theorem dX11_init_85 : decode cX11_init 85 = .ok (.aload_n 0, 1) := by decide +kernel
theorem dX11_init_86 : decode cX11_init 86 = .ok (.bipush 8, 2) := by decide +kernel
theorem dX11_init_88 : decode cX11_init 88 = .ok (.newarray .int, 2) := by decide +kernel
theorem dX11_init_90 : decode cX11_init 90 = .ok (.putfield 41, 3) := by decide +kernel
theorem dX11_init_93 : decode cX11_init 93 = .ok (.aload_n 0, 1) := by decide +kernel
theorem dX11_init_94 : decode cX11_init 94 = .ok (.bipush 8, 2) := by decide +kernel
theorem dX11_init_96 : decode cX11_init 96 = .ok (.newarray .long, 2) := by decide +kernel
theorem dX11_init_98 : decode cX11_init 98 = .ok (.putfield 44, 3) := by decide +kernel
theorem dX11_init_101 : decode cX11_init 101 = .ok (.aload_n 0, 1) := by decide +kernel
theorem dX11_init_102 : decode cX11_init 102 = .ok (.bipush 48, 2) := by decide +kernel
theorem dX11_init_104 : decode cX11_init 104 = .ok (.newarray .int, 2) := by decide +kernel
theorem dX11_init_106 : decode cX11_init 106 = .ok (.putfield 47, 3) := by decide +kernel
theorem dX11_init_109 : decode cX11_init 109 = .ok (.aload_n 0, 1) := by decide +kernel
theorem dX11_init_110 : decode cX11_init 110 = .ok (.bipush 48, 2) := by decide +kernel
theorem dX11_init_112 : decode cX11_init 112 = .ok (.newarray .int, 2) := by decide +kernel
theorem dX11_init_114 : decode cX11_init 114 = .ok (.putfield 50, 3) := by decide +kernel
theorem dX11_init_117 : decode cX11_init 117 = .ok (.aload_n 0, 1) := by decide +kernel
theorem dX11_init_118 : decode cX11_init 118 = .ok (.bipush 48, 2) := by decide +kernel
theorem dX11_init_120 : decode cX11_init 120 = .ok (.newarray .int, 2) := by decide +kernel
theorem dX11_init_122 : decode cX11_init 122 = .ok (.putfield 53, 3) := by decide +kernel
theorem dX11_init_125 : decode cX11_init 125 = .ok (.aload_n 0, 1) := by decide +kernel
theorem dX11_init_126 : decode cX11_init 126 = .ok (.bipush 48, 2) := by decide +kernel
theorem dX11_init_128 : decode cX11_init 128 = .ok (.newarray .int, 2) := by decide +kernel
theorem dX11_init_130 : decode cX11_init 130 = .ok (.putfield 56, 3) := by decide +kernel
theorem dX11_init_133 : decode cX11_init 133 = .ok (.aload_n 0, 1) := by decide +kernel
theorem dX11_init_134 : decode cX11_init 134 = .ok (.bipush 48, 2) := by decide +kernel
theorem dX11_init_136 : decode cX11_init 136 = .ok (.newarray .int, 2) := by decide +kernel
theorem dX11_init_138 : decode cX11_init 138 = .ok (.putfield 59, 3) := by decide +kernel
theorem dX11_init_141 : decode cX11_init 141 = .ok (.aload_n 0, 1) := by decide +kernel
theorem dX11_init_142 : decode cX11_init 142 = .ok (.bipush 48, 2) := by decide +kernel
theorem dX11_init_144 : decode cX11_init 144 = .ok (.newarray .int, 2) := by decide +kernel
theorem dX11_init_146 : decode cX11_init 146 = .ok (.putfield 62, 3) := by decide +kernel
theorem dX11_init_149 : decode cX11_init 149 = .ok (.aload_n 0, 1) := by decide +kernel
theorem dX11_init_150 : decode cX11_init 150 = .ok (.bipush 48, 2) := by decide +kernel
theorem dX11_init_152 : decode cX11_init 152 = .ok (.newarray .int, 2) := by decide +kernel
theorem dX11_init_154 : decode cX11_init 154 = .ok (.putfield 65, 3) := by decide +kernel
theorem dX11_init_157 : decode cX11_init 157 = .ok (.aload_n 0, 1) := by decide +kernel
theorem dX11_init_158 : decode cX11_init 158 = .ok (.bipush 48, 2) := by decide +kernel
theorem dX11_init_160 : decode cX11_init 160 = .ok (.newarray .int, 2) := by decide +kernel
theorem dX11_init_162 : decode cX11_init 162 = .ok (.putfield 68, 3) := by decide +kernel
theorem dX11_init_165 : decode cX11_init 165 = .ok (.aload_n 0, 1) := by decide +kernel
theorem dX11_init_166 : decode cX11_init 166 = .ok (.bipush 8, 2) := by decide +kernel
theorem dX11_init_168 : decode cX11_init 168 = .ok (.newarray .int, 2) := by decide +kernel
theorem dX11_init_170 : decode cX11_init 170 = .ok (.putfield 71, 3) := by decide +kernel
theorem dX11_init_173 : decode cX11_init 173 = .ok (.aload_n 0, 1) := by decide +kernel
theorem dX11_init_174 : decode cX11_init 174 = .ok (.bipush 48, 2) := by decide +kernel
theorem dX11_init_176 : decode cX11_init 176 = .ok (.newarray .int, 2) := by decide +kernel
theorem dX11_init_178 : decode cX11_init 178 = .ok (.putfield 74, 3) := by decide +kernel
theorem dX11_init_181 : decode cX11_init 181 = .ok (.aload_n 0, 1) := by decide +kernel
theorem dX11_init_182 : decode cX11_init 182 = .ok (.sipush 9240, 3) := by decide +kernel
theorem dX11_init_185 : decode cX11_init 185 = .ok (.newarray .int, 2) := by decide +kernel
theorem dX11_init_187 : decode cX11_init 187 = .ok (.putfield 77, 3) := by decide +kernel
theorem dX11_init_190 : decode cX11_init 190 = .ok (.aload_n 0, 1) := by decide +kernel
theorem dX11_init_191 : decode cX11_init 191 = .ok (.sipush 231, 3) := by decide +kernel
theorem dX11_init_194 : decode cX11_init 194 = .ok (.newarray .int, 2) := by decide +kernel
theorem dX11_init_196 : decode cX11_init 196 = .ok (.putfield 80, 3) := by decide +kernel
theorem dX11_init_199 : decode cX11_init 199 = .ok (.aload_n 0, 1) := by decide +kernel
theorem dX11_init_200 : decode cX11_init 200 = .ok (.bipush 50, 2) := by decide +kernel
theorem dX11_init_202 : decode cX11_init 202 = .ok (.newarray .int, 2) := by decide +kernel
theorem dX11_init_204 : decode cX11_init 204 = .ok (.putfield 83, 3) := by decide +kernel
theorem dX11_init_207 : decode cX11_init 207 = .ok (.aload_n 0, 1) := by decide +kernel
theorem dX11_init_208 : decode cX11_init 208 = .ok (.bipush 48, 2) := by decide +kernel
theorem dX11_init_210 : decode cX11_init 210 = .ok (.newarray .int, 2) := by decide +kernel
theorem dX11_init_212 : decode cX11_init 212 = .ok (.putfield 86, 3) := by decide +kernel
theorem dX11_init_215 : decode cX11_init 215 = .ok (.aload_n 0, 1) := by decide +kernel
theorem dX11_init_216 : decode cX11_init 216 = .ok (.bipush 40, 2) := by decide +kernel
theorem dX11_init_218 : decode cX11_init 218 = .ok (.newarray .int, 2) := by decide +kernel
theorem dX11_init_220 : decode cX11_init 220 = .ok (.putfield 89, 3) := by decide +kernel
theorem dX11_init_223 : decode cX11_init 223 = .ok (.return_, 1) := by decide +kernel
theorem dX11_thrown_0 : decode cX11_thrown 0 = .ok (.aload_n 0, 1) := by decide +kernel
theorem dX11_thrown_1 : decode cX11_thrown 1 = .ok (.getfield 92, 3) := by decide +kernel
theorem dX11_thrown_4 : decode cX11_thrown 4 = .ok (.ireturn, 1) := by decide +kernel
theorem dX11_byteOf_0 : decode cX11_byteOf 0 = .ok (.iload 5, 2) := by decide +kernel
theorem dX11_byteOf_2 : decode cX11_byteOf 2 = .ok (.iconst 4, 1) := by decide +kernel
theorem dX11_byteOf_3 : decode cX11_byteOf 3 = .ok (.if_icmp .ge 7, 3) := by decide +kernel
theorem dX11_byteOf_6 : decode cX11_byteOf 6 = .ok (.iload_n 0, 1) := by decide +kernel
theorem dX11_byteOf_7 : decode cX11_byteOf 7 = .ok (.goto 38, 3) := by decide +kernel
theorem dX11_byteOf_10 : decode cX11_byteOf 10 = .ok (.iload 5, 2) := by decide +kernel
theorem dX11_byteOf_12 : decode cX11_byteOf 12 = .ok (.bipush 8, 2) := by decide +kernel
theorem dX11_byteOf_14 : decode cX11_byteOf 14 = .ok (.if_icmp .ge 7, 3) := by decide +kernel
theorem dX11_byteOf_17 : decode cX11_byteOf 17 = .ok (.iload_n 1, 1) := by decide +kernel
theorem dX11_byteOf_18 : decode cX11_byteOf 18 = .ok (.goto 27, 3) := by decide +kernel
theorem dX11_byteOf_21 : decode cX11_byteOf 21 = .ok (.iload 5, 2) := by decide +kernel
theorem dX11_byteOf_23 : decode cX11_byteOf 23 = .ok (.bipush 12, 2) := by decide +kernel
theorem dX11_byteOf_25 : decode cX11_byteOf 25 = .ok (.if_icmp .ge 7, 3) := by decide +kernel
theorem dX11_byteOf_28 : decode cX11_byteOf 28 = .ok (.iload_n 2, 1) := by decide +kernel
theorem dX11_byteOf_29 : decode cX11_byteOf 29 = .ok (.goto 16, 3) := by decide +kernel
theorem dX11_byteOf_32 : decode cX11_byteOf 32 = .ok (.iload 5, 2) := by decide +kernel
theorem dX11_byteOf_34 : decode cX11_byteOf 34 = .ok (.bipush 16, 2) := by decide +kernel
theorem dX11_byteOf_36 : decode cX11_byteOf 36 = .ok (.if_icmp .ge 7, 3) := by decide +kernel
theorem dX11_byteOf_39 : decode cX11_byteOf 39 = .ok (.iload_n 3, 1) := by decide +kernel
theorem dX11_byteOf_40 : decode cX11_byteOf 40 = .ok (.goto 5, 3) := by decide +kernel
theorem dX11_byteOf_43 : decode cX11_byteOf 43 = .ok (.iload 4, 2) := by decide +kernel
theorem dX11_byteOf_45 : decode cX11_byteOf 45 = .ok (.istore 6, 2) := by decide +kernel
theorem dX11_byteOf_47 : decode cX11_byteOf 47 = .ok (.iload 6, 2) := by decide +kernel
theorem dX11_byteOf_49 : decode cX11_byteOf 49 = .ok (.bipush 24, 2) := by decide +kernel
theorem dX11_byteOf_51 : decode cX11_byteOf 51 = .ok (.bipush 8, 2) := by decide +kernel
theorem dX11_byteOf_53 : decode cX11_byteOf 53 = .ok (.iload 5, 2) := by decide +kernel
theorem dX11_byteOf_55 : decode cX11_byteOf 55 = .ok (.iconst 4, 1) := by decide +kernel
theorem dX11_byteOf_56 : decode cX11_byteOf 56 = .ok (.irem, 1) := by decide +kernel
theorem dX11_byteOf_57 : decode cX11_byteOf 57 = .ok (.imul, 1) := by decide +kernel
theorem dX11_byteOf_58 : decode cX11_byteOf 58 = .ok (.isub, 1) := by decide +kernel
theorem dX11_byteOf_59 : decode cX11_byteOf 59 = .ok (.ishr, 1) := by decide +kernel
theorem dX11_byteOf_60 : decode cX11_byteOf 60 = .ok (.sipush 255, 3) := by decide +kernel
theorem dX11_byteOf_63 : decode cX11_byteOf 63 = .ok (.iand, 1) := by decide +kernel
theorem dX11_byteOf_64 : decode cX11_byteOf 64 = .ok (.ireturn, 1) := by decide +kernel
theorem dX11_feed_0 : decode cX11_feed 0 = .ok (.iconst 0, 1) := by decide +kernel
theorem dX11_feed_1 : decode cX11_feed 1 = .ok (.istore 6, 2) := by decide +kernel
theorem dX11_feed_3 : decode cX11_feed 3 = .ok (.iconst 0, 1) := by decide +kernel
theorem dX11_feed_4 : decode cX11_feed 4 = .ok (.istore 7, 2) := by decide +kernel
theorem dX11_feed_6 : decode cX11_feed 6 = .ok (.iload 7, 2) := by decide +kernel
theorem dX11_feed_8 : decode cX11_feed 8 = .ok (.bipush 20, 2) := by decide +kernel
theorem dX11_feed_10 : decode cX11_feed 10 = .ok (.if_icmp .ge 34, 3) := by decide +kernel
theorem dX11_feed_13 : decode cX11_feed 13 = .ok (.iload 6, 2) := by decide +kernel
theorem dX11_feed_15 : decode cX11_feed 15 = .ok (.iload_n 1, 1) := by decide +kernel
theorem dX11_feed_16 : decode cX11_feed 16 = .ok (.iload_n 2, 1) := by decide +kernel
theorem dX11_feed_17 : decode cX11_feed 17 = .ok (.iload_n 3, 1) := by decide +kernel
theorem dX11_feed_18 : decode cX11_feed 18 = .ok (.iload 4, 2) := by decide +kernel
theorem dX11_feed_20 : decode cX11_feed 20 = .ok (.iload 5, 2) := by decide +kernel
theorem dX11_feed_22 : decode cX11_feed 22 = .ok (.iload 7, 2) := by decide +kernel
theorem dX11_feed_24 : decode cX11_feed 24 = .ok (.invokestatic 96, 3) := by decide +kernel
theorem dX11_feed_27 : decode cX11_feed 27 = .ok (.ifCond .eq 7, 3) := by decide +kernel
theorem dX11_feed_30 : decode cX11_feed 30 = .ok (.iconst 1, 1) := by decide +kernel
theorem dX11_feed_31 : decode cX11_feed 31 = .ok (.goto 4, 3) := by decide +kernel
theorem dX11_feed_34 : decode cX11_feed 34 = .ok (.iconst 0, 1) := by decide +kernel
theorem dX11_feed_35 : decode cX11_feed 35 = .ok (.iadd, 1) := by decide +kernel
theorem dX11_feed_36 : decode cX11_feed 36 = .ok (.istore 6, 2) := by decide +kernel
theorem dX11_feed_38 : decode cX11_feed 38 = .ok (.iinc 7 1, 3) := by decide +kernel
theorem dX11_feed_41 : decode cX11_feed 41 = .ok (.goto (-35), 3) := by decide +kernel
theorem dX11_feed_44 : decode cX11_feed 44 = .ok (.aload_n 0, 1) := by decide +kernel
theorem dX11_feed_45 : decode cX11_feed 45 = .ok (.getfield 100, 3) := by decide +kernel
theorem dX11_feed_48 : decode cX11_feed 48 = .ok (.iload 6, 2) := by decide +kernel
theorem dX11_feed_50 : decode cX11_feed 50 = .ok (.iadd, 1) := by decide +kernel
theorem dX11_feed_51 : decode cX11_feed 51 = .ok (.sipush 400, 3) := by decide +kernel
theorem dX11_feed_54 : decode cX11_feed 54 = .ok (.if_icmp .le 5, 3) := by decide +kernel
theorem dX11_feed_57 : decode cX11_feed 57 = .ok (.iconst (-1), 1) := by decide +kernel
theorem dX11_feed_58 : decode cX11_feed 58 = .ok (.ireturn, 1) := by decide +kernel
theorem dX11_feed_59 : decode cX11_feed 59 = .ok (.iconst 0, 1) := by decide +kernel
theorem dX11_feed_60 : decode cX11_feed 60 = .ok (.istore 7, 2) := by decide +kernel
theorem dX11_feed_62 : decode cX11_feed 62 = .ok (.iload 7, 2) := by decide +kernel
theorem dX11_feed_64 : decode cX11_feed 64 = .ok (.bipush 20, 2) := by decide +kernel
theorem dX11_feed_66 : decode cX11_feed 66 = .ok (.if_icmp .ge 49, 3) := by decide +kernel
theorem dX11_feed_69 : decode cX11_feed 69 = .ok (.iload_n 1, 1) := by decide +kernel
theorem dX11_feed_70 : decode cX11_feed 70 = .ok (.iload_n 2, 1) := by decide +kernel
theorem dX11_feed_71 : decode cX11_feed 71 = .ok (.iload_n 3, 1) := by decide +kernel
theorem dX11_feed_72 : decode cX11_feed 72 = .ok (.iload 4, 2) := by decide +kernel
theorem dX11_feed_74 : decode cX11_feed 74 = .ok (.iload 5, 2) := by decide +kernel
theorem dX11_feed_76 : decode cX11_feed 76 = .ok (.iload 7, 2) := by decide +kernel
theorem dX11_feed_78 : decode cX11_feed 78 = .ok (.invokestatic 96, 3) := by decide +kernel
theorem dX11_feed_81 : decode cX11_feed 81 = .ok (.istore 8, 2) := by decide +kernel
theorem dX11_feed_83 : decode cX11_feed 83 = .ok (.iload 8, 2) := by decide +kernel
theorem dX11_feed_85 : decode cX11_feed 85 = .ok (.ifCond .eq 24, 3) := by decide +kernel
theorem dX11_feed_88 : decode cX11_feed 88 = .ok (.aload_n 0, 1) := by decide +kernel
theorem dX11_feed_89 : decode cX11_feed 89 = .ok (.getfield 9, 3) := by decide +kernel
theorem dX11_feed_92 : decode cX11_feed 92 = .ok (.aload_n 0, 1) := by decide +kernel
theorem dX11_feed_93 : decode cX11_feed 93 = .ok (.getfield 100, 3) := by decide +kernel
theorem dX11_feed_96 : decode cX11_feed 96 = .ok (.iload 8, 2) := by decide +kernel
theorem dX11_feed_98 : decode cX11_feed 98 = .ok (.iastore, 1) := by decide +kernel
theorem dX11_feed_99 : decode cX11_feed 99 = .ok (.aload_n 0, 1) := by decide +kernel
theorem dX11_feed_100 : decode cX11_feed 100 = .ok (.dup, 1) := by decide +kernel
theorem dX11_feed_101 : decode cX11_feed 101 = .ok (.getfield 100, 3) := by decide +kernel
theorem dX11_feed_104 : decode cX11_feed 104 = .ok (.iconst 1, 1) := by decide +kernel
theorem dX11_feed_105 : decode cX11_feed 105 = .ok (.iadd, 1) := by decide +kernel
theorem dX11_feed_106 : decode cX11_feed 106 = .ok (.putfield 100, 3) := by decide +kernel
theorem dX11_feed_109 : decode cX11_feed 109 = .ok (.iinc 7 1, 3) := by decide +kernel
theorem dX11_feed_112 : decode cX11_feed 112 = .ok (.goto (-50), 3) := by decide +kernel
theorem dX11_feed_115 : decode cX11_feed 115 = .ok (.aload_n 0, 1) := by decide +kernel
theorem dX11_feed_116 : decode cX11_feed 116 = .ok (.getfield 100, 3) := by decide +kernel
theorem dX11_feed_119 : decode cX11_feed 119 = .ok (.ireturn, 1) := by decide +kernel
theorem dX11_end_0 : decode cX11_end 0 = .ok (.iload_n 1, 1) := by decide +kernel
theorem dX11_end_1 : decode cX11_end 1 = .ok (.iconst 0, 1) := by decide +kernel
theorem dX11_end_2 : decode cX11_end 2 = .ok (.aload_n 0, 1) := by decide +kernel
theorem dX11_end_3 : decode cX11_end 3 = .ok (.getfield 100, 3) := by decide +kernel
theorem dX11_end_6 : decode cX11_end 6 = .ok (.invokestatic 103, 3) := by decide +kernel
theorem dX11_end_9 : decode cX11_end 9 = .ok (.ifCond .ne 5, 3) := by decide +kernel
theorem dX11_end_12 : decode cX11_end 12 = .ok (.iconst 0, 1) := by decide +kernel
theorem dX11_end_13 : decode cX11_end 13 = .ok (.ireturn, 1) := by decide +kernel
theorem dX11_end_14 : decode cX11_end 14 = .ok (.aload_n 0, 1) := by decide +kernel
theorem dX11_end_15 : decode cX11_end 15 = .ok (.iload_n 1, 1) := by decide +kernel
theorem dX11_end_16 : decode cX11_end 16 = .ok (.putfield 100, 3) := by decide +kernel
theorem dX11_end_19 : decode cX11_end 19 = .ok (.iconst 1, 1) := by decide +kernel
theorem dX11_end_20 : decode cX11_end 20 = .ok (.ireturn, 1) := by decide +kernel
theorem dX11_here_0 : decode cX11_here 0 = .ok (.aload_n 0, 1) := by decide +kernel
theorem dX11_here_1 : decode cX11_here 1 = .ok (.getfield 107, 3) := by decide +kernel
theorem dX11_here_4 : decode cX11_here 4 = .ok (.aload_n 0, 1) := by decide +kernel
theorem dX11_here_5 : decode cX11_here 5 = .ok (.getfield 100, 3) := by decide +kernel
theorem dX11_here_8 : decode cX11_here 8 = .ok (.if_icmp .ge 15, 3) := by decide +kernel
theorem dX11_here_11 : decode cX11_here 11 = .ok (.aload_n 0, 1) := by decide +kernel
theorem dX11_here_12 : decode cX11_here 12 = .ok (.getfield 9, 3) := by decide +kernel
theorem dX11_here_15 : decode cX11_here 15 = .ok (.aload_n 0, 1) := by decide +kernel
theorem dX11_here_16 : decode cX11_here 16 = .ok (.getfield 107, 3) := by decide +kernel
theorem dX11_here_19 : decode cX11_here 19 = .ok (.iaload, 1) := by decide +kernel
theorem dX11_here_20 : decode cX11_here 20 = .ok (.goto 4, 3) := by decide +kernel
theorem dX11_here_23 : decode cX11_here 23 = .ok (.iconst (-1), 1) := by decide +kernel
theorem dX11_here_24 : decode cX11_here 24 = .ok (.ireturn, 1) := by decide +kernel
theorem dX11_isDigit_0 : decode cX11_isDigit 0 = .ok (.iload_n 0, 1) := by decide +kernel
theorem dX11_isDigit_1 : decode cX11_isDigit 1 = .ok (.bipush 48, 2) := by decide +kernel
theorem dX11_isDigit_3 : decode cX11_isDigit 3 = .ok (.if_icmp .lt 13, 3) := by decide +kernel
theorem dX11_isDigit_6 : decode cX11_isDigit 6 = .ok (.iload_n 0, 1) := by decide +kernel
theorem dX11_isDigit_7 : decode cX11_isDigit 7 = .ok (.bipush 57, 2) := by decide +kernel
theorem dX11_isDigit_9 : decode cX11_isDigit 9 = .ok (.if_icmp .gt 7, 3) := by decide +kernel
theorem dX11_isDigit_12 : decode cX11_isDigit 12 = .ok (.iconst 1, 1) := by decide +kernel
theorem dX11_isDigit_13 : decode cX11_isDigit 13 = .ok (.goto 4, 3) := by decide +kernel
theorem dX11_isDigit_16 : decode cX11_isDigit 16 = .ok (.iconst 0, 1) := by decide +kernel
theorem dX11_isDigit_17 : decode cX11_isDigit 17 = .ok (.ireturn, 1) := by decide +kernel
theorem dX11_isLetter_0 : decode cX11_isLetter 0 = .ok (.iload_n 0, 1) := by decide +kernel
theorem dX11_isLetter_1 : decode cX11_isLetter 1 = .ok (.bipush 97, 2) := by decide +kernel
theorem dX11_isLetter_3 : decode cX11_isLetter 3 = .ok (.if_icmp .lt 13, 3) := by decide +kernel
theorem dX11_isLetter_6 : decode cX11_isLetter 6 = .ok (.iload_n 0, 1) := by decide +kernel
theorem dX11_isLetter_7 : decode cX11_isLetter 7 = .ok (.bipush 122, 2) := by decide +kernel
theorem dX11_isLetter_9 : decode cX11_isLetter 9 = .ok (.if_icmp .gt 7, 3) := by decide +kernel
theorem dX11_isLetter_12 : decode cX11_isLetter 12 = .ok (.iconst 1, 1) := by decide +kernel
theorem dX11_isLetter_13 : decode cX11_isLetter 13 = .ok (.goto 4, 3) := by decide +kernel
theorem dX11_isLetter_16 : decode cX11_isLetter 16 = .ok (.iconst 0, 1) := by decide +kernel
theorem dX11_isLetter_17 : decode cX11_isLetter 17 = .ok (.ireturn, 1) := by decide +kernel
theorem dX11_readWord_0 : decode cX11_readWord 0 = .ok (.aload_n 0, 1) := by decide +kernel
theorem dX11_readWord_1 : decode cX11_readWord 1 = .ok (.lconst 0, 1) := by decide +kernel
theorem dX11_readWord_2 : decode cX11_readWord 2 = .ok (.putfield 110, 3) := by decide +kernel
theorem dX11_readWord_5 : decode cX11_readWord 5 = .ok (.aload_n 0, 1) := by decide +kernel
theorem dX11_readWord_6 : decode cX11_readWord 6 = .ok (.iconst 0, 1) := by decide +kernel
theorem dX11_readWord_7 : decode cX11_readWord 7 = .ok (.putfield 114, 3) := by decide +kernel
theorem dX11_readWord_10 : decode cX11_readWord 10 = .ok (.aload_n 0, 1) := by decide +kernel
theorem dX11_readWord_11 : decode cX11_readWord 11 = .ok (.invokevirtual 117, 3) := by decide +kernel
theorem dX11_readWord_14 : decode cX11_readWord 14 = .ok (.invokestatic 121, 3) := by decide +kernel
theorem dX11_readWord_17 : decode cX11_readWord 17 = .ok (.ifCond .eq 59, 3) := by decide +kernel
theorem dX11_readWord_20 : decode cX11_readWord 20 = .ok (.aload_n 0, 1) := by decide +kernel
theorem dX11_readWord_21 : decode cX11_readWord 21 = .ok (.getfield 114, 3) := by decide +kernel
theorem dX11_readWord_24 : decode cX11_readWord 24 = .ok (.bipush 7, 2) := by decide +kernel
theorem dX11_readWord_26 : decode cX11_readWord 26 = .ok (.if_icmp .ge 37, 3) := by decide +kernel
theorem dX11_readWord_29 : decode cX11_readWord 29 = .ok (.aload_n 0, 1) := by decide +kernel
theorem dX11_readWord_30 : decode cX11_readWord 30 = .ok (.ldc2_w 125, 3) := by decide +kernel
theorem dX11_readWord_33 : decode cX11_readWord 33 = .ok (.aload_n 0, 1) := by decide +kernel
theorem dX11_readWord_34 : decode cX11_readWord 34 = .ok (.getfield 110, 3) := by decide +kernel
theorem dX11_readWord_37 : decode cX11_readWord 37 = .ok (.lmul, 1) := by decide +kernel
theorem dX11_readWord_38 : decode cX11_readWord 38 = .ok (.aload_n 0, 1) := by decide +kernel
theorem dX11_readWord_39 : decode cX11_readWord 39 = .ok (.invokevirtual 117, 3) := by decide +kernel
theorem dX11_readWord_42 : decode cX11_readWord 42 = .ok (.i2l, 1) := by decide +kernel
theorem dX11_readWord_43 : decode cX11_readWord 43 = .ok (.ladd, 1) := by decide +kernel
theorem dX11_readWord_44 : decode cX11_readWord 44 = .ok (.ldc2_w 127, 3) := by decide +kernel
theorem dX11_readWord_47 : decode cX11_readWord 47 = .ok (.lsub, 1) := by decide +kernel
theorem dX11_readWord_48 : decode cX11_readWord 48 = .ok (.lconst 1, 1) := by decide +kernel
theorem dX11_readWord_49 : decode cX11_readWord 49 = .ok (.ladd, 1) := by decide +kernel
theorem dX11_readWord_50 : decode cX11_readWord 50 = .ok (.putfield 110, 3) := by decide +kernel
theorem dX11_readWord_53 : decode cX11_readWord 53 = .ok (.aload_n 0, 1) := by decide +kernel
theorem dX11_readWord_54 : decode cX11_readWord 54 = .ok (.dup, 1) := by decide +kernel
theorem dX11_readWord_55 : decode cX11_readWord 55 = .ok (.getfield 114, 3) := by decide +kernel
theorem dX11_readWord_58 : decode cX11_readWord 58 = .ok (.iconst 1, 1) := by decide +kernel
theorem dX11_readWord_59 : decode cX11_readWord 59 = .ok (.iadd, 1) := by decide +kernel
theorem dX11_readWord_60 : decode cX11_readWord 60 = .ok (.putfield 114, 3) := by decide +kernel
theorem dX11_readWord_63 : decode cX11_readWord 63 = .ok (.aload_n 0, 1) := by decide +kernel
theorem dX11_readWord_64 : decode cX11_readWord 64 = .ok (.dup, 1) := by decide +kernel
theorem dX11_readWord_65 : decode cX11_readWord 65 = .ok (.getfield 107, 3) := by decide +kernel
theorem dX11_readWord_68 : decode cX11_readWord 68 = .ok (.iconst 1, 1) := by decide +kernel
theorem dX11_readWord_69 : decode cX11_readWord 69 = .ok (.iadd, 1) := by decide +kernel
theorem dX11_readWord_70 : decode cX11_readWord 70 = .ok (.putfield 107, 3) := by decide +kernel
theorem dX11_readWord_73 : decode cX11_readWord 73 = .ok (.goto (-63), 3) := by decide +kernel
theorem dX11_readWord_76 : decode cX11_readWord 76 = .ok (.aload_n 0, 1) := by decide +kernel
theorem dX11_readWord_77 : decode cX11_readWord 77 = .ok (.iconst 1, 1) := by decide +kernel
theorem dX11_readWord_78 : decode cX11_readWord 78 = .ok (.putfield 129, 3) := by decide +kernel
theorem dX11_readWord_81 : decode cX11_readWord 81 = .ok (.return_, 1) := by decide +kernel
theorem dX11_readNumber_0 : decode cX11_readNumber 0 = .ok (.aload_n 0, 1) := by decide +kernel
theorem dX11_readNumber_1 : decode cX11_readNumber 1 = .ok (.aload_n 0, 1) := by decide +kernel
theorem dX11_readNumber_2 : decode cX11_readNumber 2 = .ok (.invokevirtual 117, 3) := by decide +kernel
theorem dX11_readNumber_5 : decode cX11_readNumber 5 = .ok (.bipush 45, 2) := by decide +kernel
theorem dX11_readNumber_7 : decode cX11_readNumber 7 = .ok (.if_icmp .ne 7, 3) := by decide +kernel
theorem dX11_readNumber_10 : decode cX11_readNumber 10 = .ok (.iconst 1, 1) := by decide +kernel
theorem dX11_readNumber_11 : decode cX11_readNumber 11 = .ok (.goto 4, 3) := by decide +kernel
theorem dX11_readNumber_14 : decode cX11_readNumber 14 = .ok (.iconst 0, 1) := by decide +kernel
theorem dX11_readNumber_15 : decode cX11_readNumber 15 = .ok (.putfield 132, 3) := by decide +kernel
theorem dX11_readNumber_18 : decode cX11_readNumber 18 = .ok (.aload_n 0, 1) := by decide +kernel
theorem dX11_readNumber_19 : decode cX11_readNumber 19 = .ok (.dup, 1) := by decide +kernel
theorem dX11_readNumber_20 : decode cX11_readNumber 20 = .ok (.getfield 107, 3) := by decide +kernel
theorem dX11_readNumber_23 : decode cX11_readNumber 23 = .ok (.aload_n 0, 1) := by decide +kernel
theorem dX11_readNumber_24 : decode cX11_readNumber 24 = .ok (.getfield 132, 3) := by decide +kernel
theorem dX11_readNumber_27 : decode cX11_readNumber 27 = .ok (.ifCond .eq 7, 3) := by decide +kernel
theorem dX11_readNumber_30 : decode cX11_readNumber 30 = .ok (.iconst 1, 1) := by decide +kernel
theorem dX11_readNumber_31 : decode cX11_readNumber 31 = .ok (.goto 4, 3) := by decide +kernel
theorem dX11_readNumber_34 : decode cX11_readNumber 34 = .ok (.iconst 0, 1) := by decide +kernel
theorem dX11_readNumber_35 : decode cX11_readNumber 35 = .ok (.iadd, 1) := by decide +kernel
theorem dX11_readNumber_36 : decode cX11_readNumber 36 = .ok (.putfield 107, 3) := by decide +kernel
theorem dX11_readNumber_39 : decode cX11_readNumber 39 = .ok (.iconst 0, 1) := by decide +kernel
theorem dX11_readNumber_40 : decode cX11_readNumber 40 = .ok (.istore_n 1, 1) := by decide +kernel
theorem dX11_readNumber_41 : decode cX11_readNumber 41 = .ok (.aload_n 0, 1) := by decide +kernel
theorem dX11_readNumber_42 : decode cX11_readNumber 42 = .ok (.iconst 0, 1) := by decide +kernel
theorem dX11_readNumber_43 : decode cX11_readNumber 43 = .ok (.putfield 136, 3) := by decide +kernel
theorem dX11_readNumber_46 : decode cX11_readNumber 46 = .ok (.aload_n 0, 1) := by decide +kernel
theorem dX11_readNumber_47 : decode cX11_readNumber 47 = .ok (.invokevirtual 117, 3) := by decide +kernel
theorem dX11_readNumber_50 : decode cX11_readNumber 50 = .ok (.invokestatic 139, 3) := by decide +kernel
theorem dX11_readNumber_53 : decode cX11_readNumber 53 = .ok (.ifCond .eq 47, 3) := by decide +kernel
theorem dX11_readNumber_56 : decode cX11_readNumber 56 = .ok (.aload_n 0, 1) := by decide +kernel
theorem dX11_readNumber_57 : decode cX11_readNumber 57 = .ok (.iload_n 1, 1) := by decide +kernel
theorem dX11_readNumber_58 : decode cX11_readNumber 58 = .ok (.iconst 3, 1) := by decide +kernel
theorem dX11_readNumber_59 : decode cX11_readNumber 59 = .ok (.if_icmp .ge 21, 3) := by decide +kernel
theorem dX11_readNumber_62 : decode cX11_readNumber 62 = .ok (.bipush 10, 2) := by decide +kernel
theorem dX11_readNumber_64 : decode cX11_readNumber 64 = .ok (.aload_n 0, 1) := by decide +kernel
theorem dX11_readNumber_65 : decode cX11_readNumber 65 = .ok (.getfield 136, 3) := by decide +kernel
theorem dX11_readNumber_68 : decode cX11_readNumber 68 = .ok (.imul, 1) := by decide +kernel
theorem dX11_readNumber_69 : decode cX11_readNumber 69 = .ok (.aload_n 0, 1) := by decide +kernel
theorem dX11_readNumber_70 : decode cX11_readNumber 70 = .ok (.invokevirtual 117, 3) := by decide +kernel
theorem dX11_readNumber_73 : decode cX11_readNumber 73 = .ok (.iadd, 1) := by decide +kernel
theorem dX11_readNumber_74 : decode cX11_readNumber 74 = .ok (.bipush 48, 2) := by decide +kernel
theorem dX11_readNumber_76 : decode cX11_readNumber 76 = .ok (.isub, 1) := by decide +kernel
theorem dX11_readNumber_77 : decode cX11_readNumber 77 = .ok (.goto 4, 3) := by decide +kernel
theorem dX11_readNumber_80 : decode cX11_readNumber 80 = .ok (.iconst 0, 1) := by decide +kernel
theorem dX11_readNumber_81 : decode cX11_readNumber 81 = .ok (.putfield 136, 3) := by decide +kernel
theorem dX11_readNumber_84 : decode cX11_readNumber 84 = .ok (.iinc 1 1, 3) := by decide +kernel
theorem dX11_readNumber_87 : decode cX11_readNumber 87 = .ok (.aload_n 0, 1) := by decide +kernel
theorem dX11_readNumber_88 : decode cX11_readNumber 88 = .ok (.dup, 1) := by decide +kernel
theorem dX11_readNumber_89 : decode cX11_readNumber 89 = .ok (.getfield 107, 3) := by decide +kernel
theorem dX11_readNumber_92 : decode cX11_readNumber 92 = .ok (.iconst 1, 1) := by decide +kernel
theorem dX11_readNumber_93 : decode cX11_readNumber 93 = .ok (.iadd, 1) := by decide +kernel
theorem dX11_readNumber_94 : decode cX11_readNumber 94 = .ok (.putfield 107, 3) := by decide +kernel
theorem dX11_readNumber_97 : decode cX11_readNumber 97 = .ok (.goto (-51), 3) := by decide +kernel
theorem dX11_readNumber_100 : decode cX11_readNumber 100 = .ok (.aload_n 0, 1) := by decide +kernel
theorem dX11_readNumber_101 : decode cX11_readNumber 101 = .ok (.aload_n 0, 1) := by decide +kernel
theorem dX11_readNumber_102 : decode cX11_readNumber 102 = .ok (.getfield 132, 3) := by decide +kernel
theorem dX11_readNumber_105 : decode cX11_readNumber 105 = .ok (.ifCond .eq 11, 3) := by decide +kernel
theorem dX11_readNumber_108 : decode cX11_readNumber 108 = .ok (.aload_n 0, 1) := by decide +kernel
theorem dX11_readNumber_109 : decode cX11_readNumber 109 = .ok (.getfield 136, 3) := by decide +kernel
theorem dX11_readNumber_112 : decode cX11_readNumber 112 = .ok (.ineg, 1) := by decide +kernel
theorem dX11_readNumber_113 : decode cX11_readNumber 113 = .ok (.goto 7, 3) := by decide +kernel
theorem dX11_readNumber_116 : decode cX11_readNumber 116 = .ok (.aload_n 0, 1) := by decide +kernel
theorem dX11_readNumber_117 : decode cX11_readNumber 117 = .ok (.getfield 136, 3) := by decide +kernel
theorem dX11_readNumber_120 : decode cX11_readNumber 120 = .ok (.putfield 136, 3) := by decide +kernel
theorem dX11_readNumber_123 : decode cX11_readNumber 123 = .ok (.aload_n 0, 1) := by decide +kernel
theorem dX11_readNumber_124 : decode cX11_readNumber 124 = .ok (.iload_n 1, 1) := by decide +kernel
theorem dX11_readNumber_125 : decode cX11_readNumber 125 = .ok (.iconst 1, 1) := by decide +kernel
theorem dX11_readNumber_126 : decode cX11_readNumber 126 = .ok (.iconst 3, 1) := by decide +kernel
theorem dX11_readNumber_127 : decode cX11_readNumber 127 = .ok (.invokestatic 103, 3) := by decide +kernel
theorem dX11_readNumber_130 : decode cX11_readNumber 130 = .ok (.ifCond .eq 7, 3) := by decide +kernel
theorem dX11_readNumber_133 : decode cX11_readNumber 133 = .ok (.iconst 2, 1) := by decide +kernel
theorem dX11_readNumber_134 : decode cX11_readNumber 134 = .ok (.goto 4, 3) := by decide +kernel
theorem dX11_readNumber_137 : decode cX11_readNumber 137 = .ok (.iconst 4, 1) := by decide +kernel
theorem dX11_readNumber_138 : decode cX11_readNumber 138 = .ok (.putfield 129, 3) := by decide +kernel
theorem dX11_readNumber_141 : decode cX11_readNumber 141 = .ok (.return_, 1) := by decide +kernel
theorem dX11_next_0 : decode cX11_next 0 = .ok (.aload_n 0, 1) := by decide +kernel
theorem dX11_next_1 : decode cX11_next 1 = .ok (.invokevirtual 117, 3) := by decide +kernel
theorem dX11_next_4 : decode cX11_next 4 = .ok (.bipush 32, 2) := by decide +kernel
theorem dX11_next_6 : decode cX11_next 6 = .ok (.if_icmp .ne 16, 3) := by decide +kernel
theorem dX11_next_9 : decode cX11_next 9 = .ok (.aload_n 0, 1) := by decide +kernel
theorem dX11_next_10 : decode cX11_next 10 = .ok (.dup, 1) := by decide +kernel
theorem dX11_next_11 : decode cX11_next 11 = .ok (.getfield 107, 3) := by decide +kernel
theorem dX11_next_14 : decode cX11_next 14 = .ok (.iconst 1, 1) := by decide +kernel
theorem dX11_next_15 : decode cX11_next 15 = .ok (.iadd, 1) := by decide +kernel
theorem dX11_next_16 : decode cX11_next 16 = .ok (.putfield 107, 3) := by decide +kernel
theorem dX11_next_19 : decode cX11_next 19 = .ok (.goto (-19), 3) := by decide +kernel
theorem dX11_next_22 : decode cX11_next 22 = .ok (.aload_n 0, 1) := by decide +kernel
theorem dX11_next_23 : decode cX11_next 23 = .ok (.aload_n 0, 1) := by decide +kernel
theorem dX11_next_24 : decode cX11_next 24 = .ok (.getfield 107, 3) := by decide +kernel
theorem dX11_next_27 : decode cX11_next 27 = .ok (.putfield 142, 3) := by decide +kernel
theorem dX11_next_30 : decode cX11_next 30 = .ok (.aload_n 0, 1) := by decide +kernel
theorem dX11_next_31 : decode cX11_next 31 = .ok (.invokevirtual 117, 3) := by decide +kernel
theorem dX11_next_34 : decode cX11_next 34 = .ok (.istore_n 1, 1) := by decide +kernel
theorem dX11_next_35 : decode cX11_next 35 = .ok (.iload_n 1, 1) := by decide +kernel
theorem dX11_next_36 : decode cX11_next 36 = .ok (.iconst (-1), 1) := by decide +kernel
theorem dX11_next_37 : decode cX11_next 37 = .ok (.if_icmp .ne 11, 3) := by decide +kernel
theorem dX11_next_40 : decode cX11_next 40 = .ok (.aload_n 0, 1) := by decide +kernel
theorem dX11_next_41 : decode cX11_next 41 = .ok (.iconst 0, 1) := by decide +kernel
theorem dX11_next_42 : decode cX11_next 42 = .ok (.putfield 129, 3) := by decide +kernel
theorem dX11_next_45 : decode cX11_next 45 = .ok (.goto 62, 3) := by decide +kernel
theorem dX11_next_48 : decode cX11_next 48 = .ok (.iload_n 1, 1) := by decide +kernel
theorem dX11_next_49 : decode cX11_next 49 = .ok (.invokestatic 121, 3) := by decide +kernel
theorem dX11_next_52 : decode cX11_next 52 = .ok (.ifCond .eq 10, 3) := by decide +kernel
theorem dX11_next_55 : decode cX11_next 55 = .ok (.aload_n 0, 1) := by decide +kernel
theorem dX11_next_56 : decode cX11_next 56 = .ok (.invokevirtual 145, 3) := by decide +kernel
theorem dX11_next_59 : decode cX11_next 59 = .ok (.goto 48, 3) := by decide +kernel
theorem dX11_next_62 : decode cX11_next 62 = .ok (.iload_n 1, 1) := by decide +kernel
theorem dX11_next_63 : decode cX11_next 63 = .ok (.invokestatic 139, 3) := by decide +kernel
theorem dX11_next_66 : decode cX11_next 66 = .ok (.ifCond .ne 9, 3) := by decide +kernel
theorem dX11_next_69 : decode cX11_next 69 = .ok (.iload_n 1, 1) := by decide +kernel
theorem dX11_next_70 : decode cX11_next 70 = .ok (.bipush 45, 2) := by decide +kernel
theorem dX11_next_72 : decode cX11_next 72 = .ok (.if_icmp .ne 10, 3) := by decide +kernel
theorem dX11_next_75 : decode cX11_next 75 = .ok (.aload_n 0, 1) := by decide +kernel
theorem dX11_next_76 : decode cX11_next 76 = .ok (.invokevirtual 148, 3) := by decide +kernel
theorem dX11_next_79 : decode cX11_next 79 = .ok (.goto 28, 3) := by decide +kernel
theorem dX11_next_82 : decode cX11_next 82 = .ok (.aload_n 0, 1) := by decide +kernel
theorem dX11_next_83 : decode cX11_next 83 = .ok (.dup, 1) := by decide +kernel
theorem dX11_next_84 : decode cX11_next 84 = .ok (.getfield 107, 3) := by decide +kernel
theorem dX11_next_87 : decode cX11_next 87 = .ok (.iconst 1, 1) := by decide +kernel
theorem dX11_next_88 : decode cX11_next 88 = .ok (.iadd, 1) := by decide +kernel
theorem dX11_next_89 : decode cX11_next 89 = .ok (.putfield 107, 3) := by decide +kernel
theorem dX11_next_92 : decode cX11_next 92 = .ok (.aload_n 0, 1) := by decide +kernel
theorem dX11_next_93 : decode cX11_next 93 = .ok (.iload_n 1, 1) := by decide +kernel
theorem dX11_next_94 : decode cX11_next 94 = .ok (.bipush 59, 2) := by decide +kernel
theorem dX11_next_96 : decode cX11_next 96 = .ok (.if_icmp .ne 7, 3) := by decide +kernel
theorem dX11_next_99 : decode cX11_next 99 = .ok (.iconst 3, 1) := by decide +kernel
theorem dX11_next_100 : decode cX11_next 100 = .ok (.goto 4, 3) := by decide +kernel
theorem dX11_next_103 : decode cX11_next 103 = .ok (.iconst 4, 1) := by decide +kernel
theorem dX11_next_104 : decode cX11_next 104 = .ok (.putfield 129, 3) := by decide +kernel
theorem dX11_next_107 : decode cX11_next 107 = .ok (.return_, 1) := by decide +kernel
theorem dX11_isWord_0 : decode cX11_isWord 0 = .ok (.aload_n 0, 1) := by decide +kernel
theorem dX11_isWord_1 : decode cX11_isWord 1 = .ok (.getfield 129, 3) := by decide +kernel
theorem dX11_isWord_4 : decode cX11_isWord 4 = .ok (.iconst 1, 1) := by decide +kernel
theorem dX11_isWord_5 : decode cX11_isWord 5 = .ok (.if_icmp .ne 16, 3) := by decide +kernel
theorem dX11_isWord_8 : decode cX11_isWord 8 = .ok (.aload_n 0, 1) := by decide +kernel
theorem dX11_isWord_9 : decode cX11_isWord 9 = .ok (.getfield 110, 3) := by decide +kernel
theorem dX11_isWord_12 : decode cX11_isWord 12 = .ok (.lload_n 1, 1) := by decide +kernel
theorem dX11_isWord_13 : decode cX11_isWord 13 = .ok (.lcmp, 1) := by decide +kernel
theorem dX11_isWord_14 : decode cX11_isWord 14 = .ok (.ifCond .ne 7, 3) := by decide +kernel
theorem dX11_isWord_17 : decode cX11_isWord 17 = .ok (.iconst 1, 1) := by decide +kernel
theorem dX11_isWord_18 : decode cX11_isWord 18 = .ok (.goto 4, 3) := by decide +kernel
theorem dX11_isWord_21 : decode cX11_isWord 21 = .ok (.iconst 0, 1) := by decide +kernel
theorem dX11_isWord_22 : decode cX11_isWord 22 = .ok (.ireturn, 1) := by decide +kernel
theorem dX11_bad_0 : decode cX11_bad 0 = .ok (.aload_n 0, 1) := by decide +kernel
theorem dX11_bad_1 : decode cX11_bad 1 = .ok (.aload_n 0, 1) := by decide +kernel
theorem dX11_bad_2 : decode cX11_bad 2 = .ok (.getfield 151, 3) := by decide +kernel
theorem dX11_bad_5 : decode cX11_bad 5 = .ok (.iconst (-1), 1) := by decide +kernel
theorem dX11_bad_6 : decode cX11_bad 6 = .ok (.if_icmp .ne 10, 3) := by decide +kernel
theorem dX11_bad_9 : decode cX11_bad 9 = .ok (.aload_n 0, 1) := by decide +kernel
theorem dX11_bad_10 : decode cX11_bad 10 = .ok (.getfield 142, 3) := by decide +kernel
theorem dX11_bad_13 : decode cX11_bad 13 = .ok (.goto 7, 3) := by decide +kernel
theorem dX11_bad_16 : decode cX11_bad 16 = .ok (.aload_n 0, 1) := by decide +kernel
theorem dX11_bad_17 : decode cX11_bad 17 = .ok (.getfield 151, 3) := by decide +kernel
theorem dX11_bad_20 : decode cX11_bad 20 = .ok (.putfield 151, 3) := by decide +kernel
theorem dX11_bad_23 : decode cX11_bad 23 = .ok (.return_, 1) := by decide +kernel
theorem dX11_number_0 : decode cX11_number 0 = .ok (.aload_n 0, 1) := by decide +kernel
theorem dX11_number_1 : decode cX11_number 1 = .ok (.getfield 151, 3) := by decide +kernel
theorem dX11_number_4 : decode cX11_number 4 = .ok (.iconst (-1), 1) := by decide +kernel
theorem dX11_number_5 : decode cX11_number 5 = .ok (.if_icmp .ne 30, 3) := by decide +kernel
theorem dX11_number_8 : decode cX11_number 8 = .ok (.aload_n 0, 1) := by decide +kernel
theorem dX11_number_9 : decode cX11_number 9 = .ok (.getfield 129, 3) := by decide +kernel
theorem dX11_number_12 : decode cX11_number 12 = .ok (.iconst 2, 1) := by decide +kernel
theorem dX11_number_13 : decode cX11_number 13 = .ok (.if_icmp .ne 22, 3) := by decide +kernel
theorem dX11_number_16 : decode cX11_number 16 = .ok (.aload_n 0, 1) := by decide +kernel
theorem dX11_number_17 : decode cX11_number 17 = .ok (.getfield 132, 3) := by decide +kernel
theorem dX11_number_20 : decode cX11_number 20 = .ok (.ifCond .ne 15, 3) := by decide +kernel
theorem dX11_number_23 : decode cX11_number 23 = .ok (.aload_n 0, 1) := by decide +kernel
theorem dX11_number_24 : decode cX11_number 24 = .ok (.getfield 136, 3) := by decide +kernel
theorem dX11_number_27 : decode cX11_number 27 = .ok (.iload_n 1, 1) := by decide +kernel
theorem dX11_number_28 : decode cX11_number 28 = .ok (.iload_n 2, 1) := by decide +kernel
theorem dX11_number_29 : decode cX11_number 29 = .ok (.invokestatic 103, 3) := by decide +kernel
theorem dX11_number_32 : decode cX11_number 32 = .ok (.ifCond .ne 9, 3) := by decide +kernel
theorem dX11_number_35 : decode cX11_number 35 = .ok (.aload_n 0, 1) := by decide +kernel
theorem dX11_number_36 : decode cX11_number 36 = .ok (.invokevirtual 154, 3) := by decide +kernel
theorem dX11_number_39 : decode cX11_number 39 = .ok (.iload_n 1, 1) := by decide +kernel
theorem dX11_number_40 : decode cX11_number 40 = .ok (.ireturn, 1) := by decide +kernel
theorem dX11_number_41 : decode cX11_number 41 = .ok (.aload_n 0, 1) := by decide +kernel
theorem dX11_number_42 : decode cX11_number 42 = .ok (.getfield 136, 3) := by decide +kernel
theorem dX11_number_45 : decode cX11_number 45 = .ok (.istore_n 3, 1) := by decide +kernel
theorem dX11_number_46 : decode cX11_number 46 = .ok (.aload_n 0, 1) := by decide +kernel
theorem dX11_number_47 : decode cX11_number 47 = .ok (.invokevirtual 157, 3) := by decide +kernel
theorem dX11_number_50 : decode cX11_number 50 = .ok (.iload_n 3, 1) := by decide +kernel
theorem dX11_number_51 : decode cX11_number 51 = .ok (.ireturn, 1) := by decide +kernel
theorem dX11_readSamples_0 : decode cX11_readSamples 0 = .ok (.aload_n 0, 1) := by decide +kernel
theorem dX11_readSamples_1 : decode cX11_readSamples 1 = .ok (.iconst 0, 1) := by decide +kernel
theorem dX11_readSamples_2 : decode cX11_readSamples 2 = .ok (.putfield 160, 3) := by decide +kernel
theorem dX11_readSamples_5 : decode cX11_readSamples 5 = .ok (.iconst 1, 1) := by decide +kernel
theorem dX11_readSamples_6 : decode cX11_readSamples 6 = .ok (.istore_n 1, 1) := by decide +kernel
theorem dX11_readSamples_7 : decode cX11_readSamples 7 = .ok (.iload_n 1, 1) := by decide +kernel
theorem dX11_readSamples_8 : decode cX11_readSamples 8 = .ok (.ifCond .eq 71, 3) := by decide +kernel
theorem dX11_readSamples_11 : decode cX11_readSamples 11 = .ok (.aload_n 0, 1) := by decide +kernel
theorem dX11_readSamples_12 : decode cX11_readSamples 12 = .ok (.getfield 160, 3) := by decide +kernel
theorem dX11_readSamples_15 : decode cX11_readSamples 15 = .ok (.bipush 48, 2) := by decide +kernel
theorem dX11_readSamples_17 : decode cX11_readSamples 17 = .ok (.if_icmp .ne 10, 3) := by decide +kernel
theorem dX11_readSamples_20 : decode cX11_readSamples 20 = .ok (.aload_n 0, 1) := by decide +kernel
theorem dX11_readSamples_21 : decode cX11_readSamples 21 = .ok (.invokevirtual 154, 3) := by decide +kernel
theorem dX11_readSamples_24 : decode cX11_readSamples 24 = .ok (.goto 30, 3) := by decide +kernel
theorem dX11_readSamples_27 : decode cX11_readSamples 27 = .ok (.aload_n 0, 1) := by decide +kernel
theorem dX11_readSamples_28 : decode cX11_readSamples 28 = .ok (.getfield 13, 3) := by decide +kernel
theorem dX11_readSamples_31 : decode cX11_readSamples 31 = .ok (.aload_n 0, 1) := by decide +kernel
theorem dX11_readSamples_32 : decode cX11_readSamples 32 = .ok (.getfield 160, 3) := by decide +kernel
theorem dX11_readSamples_35 : decode cX11_readSamples 35 = .ok (.aload_n 0, 1) := by decide +kernel
theorem dX11_readSamples_36 : decode cX11_readSamples 36 = .ok (.iconst 0, 1) := by decide +kernel
theorem dX11_readSamples_37 : decode cX11_readSamples 37 = .ok (.sipush 999, 3) := by decide +kernel
theorem dX11_readSamples_40 : decode cX11_readSamples 40 = .ok (.invokevirtual 163, 3) := by decide +kernel
theorem dX11_readSamples_43 : decode cX11_readSamples 43 = .ok (.iastore, 1) := by decide +kernel
theorem dX11_readSamples_44 : decode cX11_readSamples 44 = .ok (.aload_n 0, 1) := by decide +kernel
theorem dX11_readSamples_45 : decode cX11_readSamples 45 = .ok (.dup, 1) := by decide +kernel
theorem dX11_readSamples_46 : decode cX11_readSamples 46 = .ok (.getfield 160, 3) := by decide +kernel
theorem dX11_readSamples_49 : decode cX11_readSamples 49 = .ok (.iconst 1, 1) := by decide +kernel
theorem dX11_readSamples_50 : decode cX11_readSamples 50 = .ok (.iadd, 1) := by decide +kernel
theorem dX11_readSamples_51 : decode cX11_readSamples 51 = .ok (.putfield 160, 3) := by decide +kernel
theorem dX11_readSamples_54 : decode cX11_readSamples 54 = .ok (.aload_n 0, 1) := by decide +kernel
theorem dX11_readSamples_55 : decode cX11_readSamples 55 = .ok (.getfield 151, 3) := by decide +kernel
theorem dX11_readSamples_58 : decode cX11_readSamples 58 = .ok (.iconst (-1), 1) := by decide +kernel
theorem dX11_readSamples_59 : decode cX11_readSamples 59 = .ok (.if_icmp .ne 15, 3) := by decide +kernel
theorem dX11_readSamples_62 : decode cX11_readSamples 62 = .ok (.aload_n 0, 1) := by decide +kernel
theorem dX11_readSamples_63 : decode cX11_readSamples 63 = .ok (.getfield 129, 3) := by decide +kernel
theorem dX11_readSamples_66 : decode cX11_readSamples 66 = .ok (.iconst 2, 1) := by decide +kernel
theorem dX11_readSamples_67 : decode cX11_readSamples 67 = .ok (.if_icmp .ne 7, 3) := by decide +kernel
theorem dX11_readSamples_70 : decode cX11_readSamples 70 = .ok (.iconst 1, 1) := by decide +kernel
theorem dX11_readSamples_71 : decode cX11_readSamples 71 = .ok (.goto 4, 3) := by decide +kernel
theorem dX11_readSamples_74 : decode cX11_readSamples 74 = .ok (.iconst 0, 1) := by decide +kernel
theorem dX11_readSamples_75 : decode cX11_readSamples 75 = .ok (.istore_n 1, 1) := by decide +kernel
theorem dX11_readSamples_76 : decode cX11_readSamples 76 = .ok (.goto (-69), 3) := by decide +kernel
theorem dX11_readSamples_79 : decode cX11_readSamples 79 = .ok (.aload_n 0, 1) := by decide +kernel
theorem dX11_readSamples_80 : decode cX11_readSamples 80 = .ok (.getfield 151, 3) := by decide +kernel
theorem dX11_readSamples_83 : decode cX11_readSamples 83 = .ok (.iconst (-1), 1) := by decide +kernel
theorem dX11_readSamples_84 : decode cX11_readSamples 84 = .ok (.if_icmp .ne 15, 3) := by decide +kernel
theorem dX11_readSamples_87 : decode cX11_readSamples 87 = .ok (.aload_n 0, 1) := by decide +kernel
theorem dX11_readSamples_88 : decode cX11_readSamples 88 = .ok (.getfield 129, 3) := by decide +kernel
theorem dX11_readSamples_91 : decode cX11_readSamples 91 = .ok (.iconst 4, 1) := by decide +kernel
theorem dX11_readSamples_92 : decode cX11_readSamples 92 = .ok (.if_icmp .ne 7, 3) := by decide +kernel
theorem dX11_readSamples_95 : decode cX11_readSamples 95 = .ok (.aload_n 0, 1) := by decide +kernel
theorem dX11_readSamples_96 : decode cX11_readSamples 96 = .ok (.invokevirtual 154, 3) := by decide +kernel
theorem dX11_readSamples_99 : decode cX11_readSamples 99 = .ok (.return_, 1) := by decide +kernel
theorem dX11_readLine_0 : decode cX11_readLine 0 = .ok (.aload_n 0, 1) := by decide +kernel
theorem dX11_readLine_1 : decode cX11_readLine 1 = .ok (.getfield 129, 3) := by decide +kernel
theorem dX11_readLine_4 : decode cX11_readLine 4 = .ok (.iconst 1, 1) := by decide +kernel
theorem dX11_readLine_5 : decode cX11_readLine 5 = .ok (.if_icmp .ne 16, 3) := by decide +kernel
theorem dX11_readLine_8 : decode cX11_readLine 8 = .ok (.aload_n 0, 1) := by decide +kernel
theorem dX11_readLine_9 : decode cX11_readLine 9 = .ok (.getfield 114, 3) := by decide +kernel
theorem dX11_readLine_12 : decode cX11_readLine 12 = .ok (.bipush 6, 2) := by decide +kernel
theorem dX11_readLine_14 : decode cX11_readLine 14 = .ok (.if_icmp .gt 7, 3) := by decide +kernel
theorem dX11_readLine_17 : decode cX11_readLine 17 = .ok (.iconst 1, 1) := by decide +kernel
theorem dX11_readLine_18 : decode cX11_readLine 18 = .ok (.goto 4, 3) := by decide +kernel
theorem dX11_readLine_21 : decode cX11_readLine 21 = .ok (.iconst 0, 1) := by decide +kernel
theorem dX11_readLine_22 : decode cX11_readLine 22 = .ok (.istore_n 1, 1) := by decide +kernel
theorem dX11_readLine_23 : decode cX11_readLine 23 = .ok (.iconst 0, 1) := by decide +kernel
theorem dX11_readLine_24 : decode cX11_readLine 24 = .ok (.istore_n 2, 1) := by decide +kernel
theorem dX11_readLine_25 : decode cX11_readLine 25 = .ok (.iload_n 2, 1) := by decide +kernel
theorem dX11_readLine_26 : decode cX11_readLine 26 = .ok (.aload_n 0, 1) := by decide +kernel
theorem dX11_readLine_27 : decode cX11_readLine 27 = .ok (.getfield 167, 3) := by decide +kernel
theorem dX11_readLine_30 : decode cX11_readLine 30 = .ok (.if_icmp .ge 33, 3) := by decide +kernel
theorem dX11_readLine_33 : decode cX11_readLine 33 = .ok (.iload_n 1, 1) := by decide +kernel
theorem dX11_readLine_34 : decode cX11_readLine 34 = .ok (.ifCond .eq 21, 3) := by decide +kernel
theorem dX11_readLine_37 : decode cX11_readLine 37 = .ok (.aload_n 0, 1) := by decide +kernel
theorem dX11_readLine_38 : decode cX11_readLine 38 = .ok (.getfield 22, 3) := by decide +kernel
theorem dX11_readLine_41 : decode cX11_readLine 41 = .ok (.iload_n 2, 1) := by decide +kernel
theorem dX11_readLine_42 : decode cX11_readLine 42 = .ok (.laload, 1) := by decide +kernel
theorem dX11_readLine_43 : decode cX11_readLine 43 = .ok (.aload_n 0, 1) := by decide +kernel
theorem dX11_readLine_44 : decode cX11_readLine 44 = .ok (.getfield 110, 3) := by decide +kernel
theorem dX11_readLine_47 : decode cX11_readLine 47 = .ok (.lcmp, 1) := by decide +kernel
theorem dX11_readLine_48 : decode cX11_readLine 48 = .ok (.ifCond .eq 7, 3) := by decide +kernel
theorem dX11_readLine_51 : decode cX11_readLine 51 = .ok (.iconst 1, 1) := by decide +kernel
theorem dX11_readLine_52 : decode cX11_readLine 52 = .ok (.goto 4, 3) := by decide +kernel
theorem dX11_readLine_55 : decode cX11_readLine 55 = .ok (.iconst 0, 1) := by decide +kernel
theorem dX11_readLine_56 : decode cX11_readLine 56 = .ok (.istore_n 1, 1) := by decide +kernel
theorem dX11_readLine_57 : decode cX11_readLine 57 = .ok (.iinc 2 1, 3) := by decide +kernel
theorem dX11_readLine_60 : decode cX11_readLine 60 = .ok (.goto (-35), 3) := by decide +kernel
theorem dX11_readLine_63 : decode cX11_readLine 63 = .ok (.iload_n 1, 1) := by decide +kernel
theorem dX11_readLine_64 : decode cX11_readLine 64 = .ok (.ifCond .ne 8, 3) := by decide +kernel
theorem dX11_readLine_67 : decode cX11_readLine 67 = .ok (.aload_n 0, 1) := by decide +kernel
theorem dX11_readLine_68 : decode cX11_readLine 68 = .ok (.invokevirtual 154, 3) := by decide +kernel
theorem dX11_readLine_71 : decode cX11_readLine 71 = .ok (.return_, 1) := by decide +kernel
theorem dX11_readLine_72 : decode cX11_readLine 72 = .ok (.aload_n 0, 1) := by decide +kernel
theorem dX11_readLine_73 : decode cX11_readLine 73 = .ok (.getfield 22, 3) := by decide +kernel
theorem dX11_readLine_76 : decode cX11_readLine 76 = .ok (.aload_n 0, 1) := by decide +kernel
theorem dX11_readLine_77 : decode cX11_readLine 77 = .ok (.getfield 167, 3) := by decide +kernel
theorem dX11_readLine_80 : decode cX11_readLine 80 = .ok (.aload_n 0, 1) := by decide +kernel
theorem dX11_readLine_81 : decode cX11_readLine 81 = .ok (.getfield 110, 3) := by decide +kernel
theorem dX11_readLine_84 : decode cX11_readLine 84 = .ok (.lastore, 1) := by decide +kernel
theorem dX11_readLine_85 : decode cX11_readLine 85 = .ok (.aload_n 0, 1) := by decide +kernel
theorem dX11_readLine_86 : decode cX11_readLine 86 = .ok (.getfield 19, 3) := by decide +kernel
theorem dX11_readLine_89 : decode cX11_readLine 89 = .ok (.aload_n 0, 1) := by decide +kernel
theorem dX11_readLine_90 : decode cX11_readLine 90 = .ok (.getfield 167, 3) := by decide +kernel
theorem dX11_readLine_93 : decode cX11_readLine 93 = .ok (.aload_n 0, 1) := by decide +kernel
theorem dX11_readLine_94 : decode cX11_readLine 94 = .ok (.getfield 114, 3) := by decide +kernel
theorem dX11_readLine_97 : decode cX11_readLine 97 = .ok (.iastore, 1) := by decide +kernel
theorem dX11_readLine_98 : decode cX11_readLine 98 = .ok (.aload_n 0, 1) := by decide +kernel
theorem dX11_readLine_99 : decode cX11_readLine 99 = .ok (.invokevirtual 157, 3) := by decide +kernel
theorem dX11_readLine_102 : decode cX11_readLine 102 = .ok (.aload_n 0, 1) := by decide +kernel
theorem dX11_readLine_103 : decode cX11_readLine 103 = .ok (.getfield 16, 3) := by decide +kernel
theorem dX11_readLine_106 : decode cX11_readLine 106 = .ok (.aload_n 0, 1) := by decide +kernel
theorem dX11_readLine_107 : decode cX11_readLine 107 = .ok (.getfield 167, 3) := by decide +kernel
theorem dX11_readLine_110 : decode cX11_readLine 110 = .ok (.aload_n 0, 1) := by decide +kernel
theorem dX11_readLine_111 : decode cX11_readLine 111 = .ok (.iconst 0, 1) := by decide +kernel
theorem dX11_readLine_112 : decode cX11_readLine 112 = .ok (.bipush 47, 2) := by decide +kernel
theorem dX11_readLine_114 : decode cX11_readLine 114 = .ok (.invokevirtual 163, 3) := by decide +kernel
theorem dX11_readLine_117 : decode cX11_readLine 117 = .ok (.iastore, 1) := by decide +kernel
theorem dX11_readLine_118 : decode cX11_readLine 118 = .ok (.aload_n 0, 1) := by decide +kernel
theorem dX11_readLine_119 : decode cX11_readLine 119 = .ok (.dup, 1) := by decide +kernel
theorem dX11_readLine_120 : decode cX11_readLine 120 = .ok (.getfield 167, 3) := by decide +kernel
theorem dX11_readLine_123 : decode cX11_readLine 123 = .ok (.iconst 1, 1) := by decide +kernel
theorem dX11_readLine_124 : decode cX11_readLine 124 = .ok (.iadd, 1) := by decide +kernel
theorem dX11_readLine_125 : decode cX11_readLine 125 = .ok (.putfield 167, 3) := by decide +kernel
theorem dX11_readLine_128 : decode cX11_readLine 128 = .ok (.return_, 1) := by decide +kernel
theorem dX11_clause_0 : decode cX11_clause 0 = .ok (.aload_n 0, 1) := by decide +kernel
theorem dX11_clause_1 : decode cX11_clause 1 = .ok (.getstatic 170, 3) := by decide +kernel
theorem dX11_clause_4 : decode cX11_clause 4 = .ok (.invokevirtual 173, 3) := by decide +kernel
theorem dX11_clause_7 : decode cX11_clause 7 = .ok (.ifCond .eq 7, 3) := by decide +kernel
theorem dX11_clause_10 : decode cX11_clause 10 = .ok (.iconst 0, 1) := by decide +kernel
theorem dX11_clause_11 : decode cX11_clause 11 = .ok (.goto 46, 3) := by decide +kernel
theorem dX11_clause_14 : decode cX11_clause 14 = .ok (.aload_n 0, 1) := by decide +kernel
theorem dX11_clause_15 : decode cX11_clause 15 = .ok (.getstatic 177, 3) := by decide +kernel
theorem dX11_clause_18 : decode cX11_clause 18 = .ok (.invokevirtual 173, 3) := by decide +kernel
theorem dX11_clause_21 : decode cX11_clause 21 = .ok (.ifCond .eq 7, 3) := by decide +kernel
theorem dX11_clause_24 : decode cX11_clause 24 = .ok (.iconst 1, 1) := by decide +kernel
theorem dX11_clause_25 : decode cX11_clause 25 = .ok (.goto 32, 3) := by decide +kernel
theorem dX11_clause_28 : decode cX11_clause 28 = .ok (.aload_n 0, 1) := by decide +kernel
theorem dX11_clause_29 : decode cX11_clause 29 = .ok (.getstatic 180, 3) := by decide +kernel
theorem dX11_clause_32 : decode cX11_clause 32 = .ok (.invokevirtual 173, 3) := by decide +kernel
theorem dX11_clause_35 : decode cX11_clause 35 = .ok (.ifCond .eq 7, 3) := by decide +kernel
theorem dX11_clause_38 : decode cX11_clause 38 = .ok (.iconst 2, 1) := by decide +kernel
theorem dX11_clause_39 : decode cX11_clause 39 = .ok (.goto 18, 3) := by decide +kernel
theorem dX11_clause_42 : decode cX11_clause 42 = .ok (.aload_n 0, 1) := by decide +kernel
theorem dX11_clause_43 : decode cX11_clause 43 = .ok (.getstatic 183, 3) := by decide +kernel
theorem dX11_clause_46 : decode cX11_clause 46 = .ok (.invokevirtual 173, 3) := by decide +kernel
theorem dX11_clause_49 : decode cX11_clause 49 = .ok (.ifCond .eq 7, 3) := by decide +kernel
theorem dX11_clause_52 : decode cX11_clause 52 = .ok (.iconst 3, 1) := by decide +kernel
theorem dX11_clause_53 : decode cX11_clause 53 = .ok (.goto 4, 3) := by decide +kernel
theorem dX11_clause_56 : decode cX11_clause 56 = .ok (.iconst (-1), 1) := by decide +kernel
theorem dX11_clause_57 : decode cX11_clause 57 = .ok (.istore_n 2, 1) := by decide +kernel
theorem dX11_clause_58 : decode cX11_clause 58 = .ok (.iload_n 2, 1) := by decide +kernel
theorem dX11_clause_59 : decode cX11_clause 59 = .ok (.iconst (-1), 1) := by decide +kernel
theorem dX11_clause_60 : decode cX11_clause 60 = .ok (.if_icmp .eq 30, 3) := by decide +kernel
theorem dX11_clause_63 : decode cX11_clause 63 = .ok (.iload_n 2, 1) := by decide +kernel
theorem dX11_clause_64 : decode cX11_clause 64 = .ok (.iconst 3, 1) := by decide +kernel
theorem dX11_clause_65 : decode cX11_clause 65 = .ok (.if_icmp .ge 11, 3) := by decide +kernel
theorem dX11_clause_68 : decode cX11_clause 68 = .ok (.iload_n 1, 1) := by decide +kernel
theorem dX11_clause_69 : decode cX11_clause 69 = .ok (.iload_n 2, 1) := by decide +kernel
theorem dX11_clause_70 : decode cX11_clause 70 = .ok (.invokestatic 186, 3) := by decide +kernel
theorem dX11_clause_73 : decode cX11_clause 73 = .ok (.ifCond .ne 17, 3) := by decide +kernel
theorem dX11_clause_76 : decode cX11_clause 76 = .ok (.iload_n 2, 1) := by decide +kernel
theorem dX11_clause_77 : decode cX11_clause 77 = .ok (.iconst 3, 1) := by decide +kernel
theorem dX11_clause_78 : decode cX11_clause 78 = .ok (.if_icmp .ne 18, 3) := by decide +kernel
theorem dX11_clause_81 : decode cX11_clause 81 = .ok (.aload_n 0, 1) := by decide +kernel
theorem dX11_clause_82 : decode cX11_clause 82 = .ok (.getfield 167, 3) := by decide +kernel
theorem dX11_clause_85 : decode cX11_clause 85 = .ok (.bipush 8, 2) := by decide +kernel
theorem dX11_clause_87 : decode cX11_clause 87 = .ok (.if_icmp .ne 9, 3) := by decide +kernel
theorem dX11_clause_90 : decode cX11_clause 90 = .ok (.aload_n 0, 1) := by decide +kernel
theorem dX11_clause_91 : decode cX11_clause 91 = .ok (.invokevirtual 154, 3) := by decide +kernel
theorem dX11_clause_94 : decode cX11_clause 94 = .ok (.iload_n 1, 1) := by decide +kernel
theorem dX11_clause_95 : decode cX11_clause 95 = .ok (.ireturn, 1) := by decide +kernel
theorem dX11_clause_96 : decode cX11_clause 96 = .ok (.aload_n 0, 1) := by decide +kernel
theorem dX11_clause_97 : decode cX11_clause 97 = .ok (.invokevirtual 157, 3) := by decide +kernel
theorem dX11_clause_100 : decode cX11_clause 100 = .ok (.iload_n 2, 1) := by decide +kernel
theorem dX11_clause_101 : decode cX11_clause 101 = .ok (.tableswitch 63 0 2 #[27, 34, 49], 27) := by decide +kernel
theorem dX11_clause_128 : decode cX11_clause 128 = .ok (.aload_n 0, 1) := by decide +kernel
theorem dX11_clause_129 : decode cX11_clause 129 = .ok (.invokevirtual 190, 3) := by decide +kernel
theorem dX11_clause_132 : decode cX11_clause 132 = .ok (.goto 36, 3) := by decide +kernel
theorem dX11_clause_135 : decode cX11_clause 135 = .ok (.aload_n 0, 1) := by decide +kernel
theorem dX11_clause_136 : decode cX11_clause 136 = .ok (.aload_n 0, 1) := by decide +kernel
theorem dX11_clause_137 : decode cX11_clause 137 = .ok (.iconst 0, 1) := by decide +kernel
theorem dX11_clause_138 : decode cX11_clause 138 = .ok (.sipush 999, 3) := by decide +kernel
theorem dX11_clause_141 : decode cX11_clause 141 = .ok (.invokevirtual 163, 3) := by decide +kernel
theorem dX11_clause_144 : decode cX11_clause 144 = .ok (.putfield 193, 3) := by decide +kernel
theorem dX11_clause_147 : decode cX11_clause 147 = .ok (.goto 21, 3) := by decide +kernel
theorem dX11_clause_150 : decode cX11_clause 150 = .ok (.aload_n 0, 1) := by decide +kernel
theorem dX11_clause_151 : decode cX11_clause 151 = .ok (.aload_n 0, 1) := by decide +kernel
theorem dX11_clause_152 : decode cX11_clause 152 = .ok (.iconst 0, 1) := by decide +kernel
theorem dX11_clause_153 : decode cX11_clause 153 = .ok (.bipush 9, 2) := by decide +kernel
theorem dX11_clause_155 : decode cX11_clause 155 = .ok (.invokevirtual 163, 3) := by decide +kernel
theorem dX11_clause_158 : decode cX11_clause 158 = .ok (.putfield 196, 3) := by decide +kernel
theorem dX11_clause_161 : decode cX11_clause 161 = .ok (.goto 7, 3) := by decide +kernel
theorem dX11_clause_164 : decode cX11_clause 164 = .ok (.aload_n 0, 1) := by decide +kernel
theorem dX11_clause_165 : decode cX11_clause 165 = .ok (.invokevirtual 199, 3) := by decide +kernel
theorem dX11_clause_168 : decode cX11_clause 168 = .ok (.iload_n 1, 1) := by decide +kernel
theorem dX11_clause_169 : decode cX11_clause 169 = .ok (.iconst 1, 1) := by decide +kernel
theorem dX11_clause_170 : decode cX11_clause 170 = .ok (.iload_n 2, 1) := by decide +kernel
theorem dX11_clause_171 : decode cX11_clause 171 = .ok (.ishl, 1) := by decide +kernel
theorem dX11_clause_172 : decode cX11_clause 172 = .ok (.ior, 1) := by decide +kernel
theorem dX11_clause_173 : decode cX11_clause 173 = .ok (.ireturn, 1) := by decide +kernel
theorem dX11_begins_0 : decode cX11_begins 0 = .ok (.aload_n 0, 1) := by decide +kernel
theorem dX11_begins_1 : decode cX11_begins 1 = .ok (.iconst 0, 1) := by decide +kernel
theorem dX11_begins_2 : decode cX11_begins 2 = .ok (.putfield 107, 3) := by decide +kernel
theorem dX11_begins_5 : decode cX11_begins 5 = .ok (.aload_n 0, 1) := by decide +kernel
theorem dX11_begins_6 : decode cX11_begins 6 = .ok (.iconst (-1), 1) := by decide +kernel
theorem dX11_begins_7 : decode cX11_begins 7 = .ok (.putfield 151, 3) := by decide +kernel
theorem dX11_begins_10 : decode cX11_begins 10 = .ok (.aload_n 0, 1) := by decide +kernel
theorem dX11_begins_11 : decode cX11_begins 11 = .ok (.invokevirtual 157, 3) := by decide +kernel
theorem dX11_begins_14 : decode cX11_begins 14 = .ok (.return_, 1) := by decide +kernel
theorem dX11_readTrace_0 : decode cX11_readTrace 0 = .ok (.aload_n 0, 1) := by decide +kernel
theorem dX11_readTrace_1 : decode cX11_readTrace 1 = .ok (.invokevirtual 202, 3) := by decide +kernel
theorem dX11_readTrace_4 : decode cX11_readTrace 4 = .ok (.aload_n 0, 1) := by decide +kernel
theorem dX11_readTrace_5 : decode cX11_readTrace 5 = .ok (.iconst 0, 1) := by decide +kernel
theorem dX11_readTrace_6 : decode cX11_readTrace 6 = .ok (.putfield 167, 3) := by decide +kernel
theorem dX11_readTrace_9 : decode cX11_readTrace 9 = .ok (.aload_n 0, 1) := by decide +kernel
theorem dX11_readTrace_10 : decode cX11_readTrace 10 = .ok (.iconst 0, 1) := by decide +kernel
theorem dX11_readTrace_11 : decode cX11_readTrace 11 = .ok (.putfield 193, 3) := by decide +kernel
theorem dX11_readTrace_14 : decode cX11_readTrace 14 = .ok (.aload_n 0, 1) := by decide +kernel
theorem dX11_readTrace_15 : decode cX11_readTrace 15 = .ok (.iconst 1, 1) := by decide +kernel
theorem dX11_readTrace_16 : decode cX11_readTrace 16 = .ok (.putfield 196, 3) := by decide +kernel
theorem dX11_readTrace_19 : decode cX11_readTrace 19 = .ok (.iconst 0, 1) := by decide +kernel
theorem dX11_readTrace_20 : decode cX11_readTrace 20 = .ok (.istore_n 1, 1) := by decide +kernel
theorem dX11_readTrace_21 : decode cX11_readTrace 21 = .ok (.iconst 1, 1) := by decide +kernel
theorem dX11_readTrace_22 : decode cX11_readTrace 22 = .ok (.istore_n 2, 1) := by decide +kernel
theorem dX11_readTrace_23 : decode cX11_readTrace 23 = .ok (.iload_n 2, 1) := by decide +kernel
theorem dX11_readTrace_24 : decode cX11_readTrace 24 = .ok (.ifCond .eq 42, 3) := by decide +kernel
theorem dX11_readTrace_27 : decode cX11_readTrace 27 = .ok (.aload_n 0, 1) := by decide +kernel
theorem dX11_readTrace_28 : decode cX11_readTrace 28 = .ok (.iload_n 1, 1) := by decide +kernel
theorem dX11_readTrace_29 : decode cX11_readTrace 29 = .ok (.invokevirtual 205, 3) := by decide +kernel
theorem dX11_readTrace_32 : decode cX11_readTrace 32 = .ok (.istore_n 1, 1) := by decide +kernel
theorem dX11_readTrace_33 : decode cX11_readTrace 33 = .ok (.aload_n 0, 1) := by decide +kernel
theorem dX11_readTrace_34 : decode cX11_readTrace 34 = .ok (.getfield 151, 3) := by decide +kernel
theorem dX11_readTrace_37 : decode cX11_readTrace 37 = .ok (.iconst (-1), 1) := by decide +kernel
theorem dX11_readTrace_38 : decode cX11_readTrace 38 = .ok (.if_icmp .ne 15, 3) := by decide +kernel
theorem dX11_readTrace_41 : decode cX11_readTrace 41 = .ok (.aload_n 0, 1) := by decide +kernel
theorem dX11_readTrace_42 : decode cX11_readTrace 42 = .ok (.getfield 129, 3) := by decide +kernel
theorem dX11_readTrace_45 : decode cX11_readTrace 45 = .ok (.iconst 3, 1) := by decide +kernel
theorem dX11_readTrace_46 : decode cX11_readTrace 46 = .ok (.if_icmp .ne 7, 3) := by decide +kernel
theorem dX11_readTrace_49 : decode cX11_readTrace 49 = .ok (.iconst 1, 1) := by decide +kernel
theorem dX11_readTrace_50 : decode cX11_readTrace 50 = .ok (.goto 4, 3) := by decide +kernel
theorem dX11_readTrace_53 : decode cX11_readTrace 53 = .ok (.iconst 0, 1) := by decide +kernel
theorem dX11_readTrace_54 : decode cX11_readTrace 54 = .ok (.istore_n 2, 1) := by decide +kernel
theorem dX11_readTrace_55 : decode cX11_readTrace 55 = .ok (.iload_n 2, 1) := by decide +kernel
theorem dX11_readTrace_56 : decode cX11_readTrace 56 = .ok (.ifCond .eq (-33), 3) := by decide +kernel
theorem dX11_readTrace_59 : decode cX11_readTrace 59 = .ok (.aload_n 0, 1) := by decide +kernel
theorem dX11_readTrace_60 : decode cX11_readTrace 60 = .ok (.invokevirtual 157, 3) := by decide +kernel
theorem dX11_readTrace_63 : decode cX11_readTrace 63 = .ok (.goto (-40), 3) := by decide +kernel
theorem dX11_readTrace_66 : decode cX11_readTrace 66 = .ok (.aload_n 0, 1) := by decide +kernel
theorem dX11_readTrace_67 : decode cX11_readTrace 67 = .ok (.getfield 151, 3) := by decide +kernel
theorem dX11_readTrace_70 : decode cX11_readTrace 70 = .ok (.iconst (-1), 1) := by decide +kernel
theorem dX11_readTrace_71 : decode cX11_readTrace 71 = .ok (.if_icmp .ne 22, 3) := by decide +kernel
theorem dX11_readTrace_74 : decode cX11_readTrace 74 = .ok (.aload_n 0, 1) := by decide +kernel
theorem dX11_readTrace_75 : decode cX11_readTrace 75 = .ok (.getfield 129, 3) := by decide +kernel
theorem dX11_readTrace_78 : decode cX11_readTrace 78 = .ok (.ifCond .ne 11, 3) := by decide +kernel
theorem dX11_readTrace_81 : decode cX11_readTrace 81 = .ok (.iload_n 1, 1) := by decide +kernel
theorem dX11_readTrace_82 : decode cX11_readTrace 82 = .ok (.iconst 0, 1) := by decide +kernel
theorem dX11_readTrace_83 : decode cX11_readTrace 83 = .ok (.invokestatic 186, 3) := by decide +kernel
theorem dX11_readTrace_86 : decode cX11_readTrace 86 = .ok (.ifCond .ne 7, 3) := by decide +kernel
theorem dX11_readTrace_89 : decode cX11_readTrace 89 = .ok (.aload_n 0, 1) := by decide +kernel
theorem dX11_readTrace_90 : decode cX11_readTrace 90 = .ok (.invokevirtual 154, 3) := by decide +kernel
theorem dX11_readTrace_93 : decode cX11_readTrace 93 = .ok (.aload_n 0, 1) := by decide +kernel
theorem dX11_readTrace_94 : decode cX11_readTrace 94 = .ok (.getfield 151, 3) := by decide +kernel
theorem dX11_readTrace_97 : decode cX11_readTrace 97 = .ok (.ireturn, 1) := by decide +kernel
theorem dX11_wordOf_0 : decode cX11_wordOf 0 = .ok (.iload_n 0, 1) := by decide +kernel
theorem dX11_wordOf_1 : decode cX11_wordOf 1 = .ok (.tableswitch 87 0 8 #[51, 55, 59, 63, 67, 71, 75, 79, 83], 51) := by decide +kernel
theorem dX11_wordOf_52 : decode cX11_wordOf 52 = .ok (.getstatic 209, 3) := by decide +kernel
theorem dX11_wordOf_55 : decode cX11_wordOf 55 = .ok (.lreturn, 1) := by decide +kernel
theorem dX11_wordOf_56 : decode cX11_wordOf 56 = .ok (.getstatic 212, 3) := by decide +kernel
theorem dX11_wordOf_59 : decode cX11_wordOf 59 = .ok (.lreturn, 1) := by decide +kernel
theorem dX11_wordOf_60 : decode cX11_wordOf 60 = .ok (.getstatic 215, 3) := by decide +kernel
theorem dX11_wordOf_63 : decode cX11_wordOf 63 = .ok (.lreturn, 1) := by decide +kernel
theorem dX11_wordOf_64 : decode cX11_wordOf 64 = .ok (.getstatic 218, 3) := by decide +kernel
theorem dX11_wordOf_67 : decode cX11_wordOf 67 = .ok (.lreturn, 1) := by decide +kernel
theorem dX11_wordOf_68 : decode cX11_wordOf 68 = .ok (.getstatic 221, 3) := by decide +kernel
theorem dX11_wordOf_71 : decode cX11_wordOf 71 = .ok (.lreturn, 1) := by decide +kernel
theorem dX11_wordOf_72 : decode cX11_wordOf 72 = .ok (.getstatic 224, 3) := by decide +kernel
theorem dX11_wordOf_75 : decode cX11_wordOf 75 = .ok (.lreturn, 1) := by decide +kernel
theorem dX11_wordOf_76 : decode cX11_wordOf 76 = .ok (.getstatic 227, 3) := by decide +kernel
theorem dX11_wordOf_79 : decode cX11_wordOf 79 = .ok (.lreturn, 1) := by decide +kernel
theorem dX11_wordOf_80 : decode cX11_wordOf 80 = .ok (.getstatic 230, 3) := by decide +kernel
theorem dX11_wordOf_83 : decode cX11_wordOf 83 = .ok (.lreturn, 1) := by decide +kernel
theorem dX11_wordOf_84 : decode cX11_wordOf 84 = .ok (.getstatic 177, 3) := by decide +kernel
theorem dX11_wordOf_87 : decode cX11_wordOf 87 = .ok (.lreturn, 1) := by decide +kernel
theorem dX11_wordOf_88 : decode cX11_wordOf 88 = .ok (.getstatic 233, 3) := by decide +kernel
theorem dX11_wordOf_91 : decode cX11_wordOf 91 = .ok (.lreturn, 1) := by decide +kernel
theorem dX11_numbersOf_0 : decode cX11_numbersOf 0 = .ok (.iload_n 0, 1) := by decide +kernel
theorem dX11_numbersOf_1 : decode cX11_numbersOf 1 = .ok (.iconst 3, 1) := by decide +kernel
theorem dX11_numbersOf_2 : decode cX11_numbersOf 2 = .ok (.if_icmp .gt 7, 3) := by decide +kernel
theorem dX11_numbersOf_5 : decode cX11_numbersOf 5 = .ok (.iconst 0, 1) := by decide +kernel
theorem dX11_numbersOf_6 : decode cX11_numbersOf 6 = .ok (.goto 24, 3) := by decide +kernel
theorem dX11_numbersOf_9 : decode cX11_numbersOf 9 = .ok (.iload_n 0, 1) := by decide +kernel
theorem dX11_numbersOf_10 : decode cX11_numbersOf 10 = .ok (.iconst 4, 1) := by decide +kernel
theorem dX11_numbersOf_11 : decode cX11_numbersOf 11 = .ok (.if_icmp .eq 14, 3) := by decide +kernel
theorem dX11_numbersOf_14 : decode cX11_numbersOf 14 = .ok (.iload_n 0, 1) := by decide +kernel
theorem dX11_numbersOf_15 : decode cX11_numbersOf 15 = .ok (.iconst 5, 1) := by decide +kernel
theorem dX11_numbersOf_16 : decode cX11_numbersOf 16 = .ok (.if_icmp .eq 9, 3) := by decide +kernel
theorem dX11_numbersOf_19 : decode cX11_numbersOf 19 = .ok (.iload_n 0, 1) := by decide +kernel
theorem dX11_numbersOf_20 : decode cX11_numbersOf 20 = .ok (.bipush 8, 2) := by decide +kernel
theorem dX11_numbersOf_22 : decode cX11_numbersOf 22 = .ok (.if_icmp .ne 7, 3) := by decide +kernel
theorem dX11_numbersOf_25 : decode cX11_numbersOf 25 = .ok (.iconst 1, 1) := by decide +kernel
theorem dX11_numbersOf_26 : decode cX11_numbersOf 26 = .ok (.goto 4, 3) := by decide +kernel
theorem dX11_numbersOf_29 : decode cX11_numbersOf 29 = .ok (.iconst 2, 1) := by decide +kernel
theorem dX11_numbersOf_30 : decode cX11_numbersOf 30 = .ok (.ireturn, 1) := by decide +kernel
theorem dX11_readStep_0 : decode cX11_readStep 0 = .ok (.iconst (-1), 1) := by decide +kernel
theorem dX11_readStep_1 : decode cX11_readStep 1 = .ok (.istore_n 2, 1) := by decide +kernel
theorem dX11_readStep_2 : decode cX11_readStep 2 = .ok (.iconst 0, 1) := by decide +kernel
theorem dX11_readStep_3 : decode cX11_readStep 3 = .ok (.istore_n 3, 1) := by decide +kernel
theorem dX11_readStep_4 : decode cX11_readStep 4 = .ok (.iload_n 3, 1) := by decide +kernel
theorem dX11_readStep_5 : decode cX11_readStep 5 = .ok (.bipush 10, 2) := by decide +kernel
theorem dX11_readStep_7 : decode cX11_readStep 7 = .ok (.if_icmp .ge 26, 3) := by decide +kernel
theorem dX11_readStep_10 : decode cX11_readStep 10 = .ok (.aload_n 0, 1) := by decide +kernel
theorem dX11_readStep_11 : decode cX11_readStep 11 = .ok (.iload_n 3, 1) := by decide +kernel
theorem dX11_readStep_12 : decode cX11_readStep 12 = .ok (.invokestatic 236, 3) := by decide +kernel
theorem dX11_readStep_15 : decode cX11_readStep 15 = .ok (.invokevirtual 173, 3) := by decide +kernel
theorem dX11_readStep_18 : decode cX11_readStep 18 = .ok (.ifCond .eq 7, 3) := by decide +kernel
theorem dX11_readStep_21 : decode cX11_readStep 21 = .ok (.iload_n 3, 1) := by decide +kernel
theorem dX11_readStep_22 : decode cX11_readStep 22 = .ok (.goto 4, 3) := by decide +kernel
theorem dX11_readStep_25 : decode cX11_readStep 25 = .ok (.iload_n 2, 1) := by decide +kernel
theorem dX11_readStep_26 : decode cX11_readStep 26 = .ok (.istore_n 2, 1) := by decide +kernel
theorem dX11_readStep_27 : decode cX11_readStep 27 = .ok (.iinc 3 1, 3) := by decide +kernel
theorem dX11_readStep_30 : decode cX11_readStep 30 = .ok (.goto (-26), 3) := by decide +kernel
theorem dX11_readStep_33 : decode cX11_readStep 33 = .ok (.iload_n 2, 1) := by decide +kernel
theorem dX11_readStep_34 : decode cX11_readStep 34 = .ok (.iconst (-1), 1) := by decide +kernel
theorem dX11_readStep_35 : decode cX11_readStep 35 = .ok (.if_icmp .ne 8, 3) := by decide +kernel
theorem dX11_readStep_38 : decode cX11_readStep 38 = .ok (.aload_n 0, 1) := by decide +kernel
theorem dX11_readStep_39 : decode cX11_readStep 39 = .ok (.invokevirtual 154, 3) := by decide +kernel
theorem dX11_readStep_42 : decode cX11_readStep 42 = .ok (.return_, 1) := by decide +kernel
theorem dX11_readStep_43 : decode cX11_readStep 43 = .ok (.aload_n 0, 1) := by decide +kernel
theorem dX11_readStep_44 : decode cX11_readStep 44 = .ok (.invokevirtual 157, 3) := by decide +kernel
theorem dX11_readStep_47 : decode cX11_readStep 47 = .ok (.aload_n 0, 1) := by decide +kernel
theorem dX11_readStep_48 : decode cX11_readStep 48 = .ok (.getfield 26, 3) := by decide +kernel
theorem dX11_readStep_51 : decode cX11_readStep 51 = .ok (.iload_n 1, 1) := by decide +kernel
theorem dX11_readStep_52 : decode cX11_readStep 52 = .ok (.iload_n 2, 1) := by decide +kernel
theorem dX11_readStep_53 : decode cX11_readStep 53 = .ok (.iastore, 1) := by decide +kernel
theorem dX11_readStep_54 : decode cX11_readStep 54 = .ok (.iconst 1, 1) := by decide +kernel
theorem dX11_readStep_55 : decode cX11_readStep 55 = .ok (.istore_n 3, 1) := by decide +kernel
theorem dX11_readStep_56 : decode cX11_readStep 56 = .ok (.iload_n 3, 1) := by decide +kernel
theorem dX11_readStep_57 : decode cX11_readStep 57 = .ok (.iconst 3, 1) := by decide +kernel
theorem dX11_readStep_58 : decode cX11_readStep 58 = .ok (.if_icmp .ge 66, 3) := by decide +kernel
theorem dX11_readStep_61 : decode cX11_readStep 61 = .ok (.aload_n 0, 1) := by decide +kernel
theorem dX11_readStep_62 : decode cX11_readStep 62 = .ok (.getfield 26, 3) := by decide +kernel
theorem dX11_readStep_65 : decode cX11_readStep 65 = .ok (.iload_n 1, 1) := by decide +kernel
theorem dX11_readStep_66 : decode cX11_readStep 66 = .ok (.iload_n 3, 1) := by decide +kernel
theorem dX11_readStep_67 : decode cX11_readStep 67 = .ok (.iadd, 1) := by decide +kernel
theorem dX11_readStep_68 : decode cX11_readStep 68 = .ok (.ldc 240, 2) := by decide +kernel
theorem dX11_readStep_70 : decode cX11_readStep 70 = .ok (.iastore, 1) := by decide +kernel
theorem dX11_readStep_71 : decode cX11_readStep 71 = .ok (.iload_n 3, 1) := by decide +kernel
theorem dX11_readStep_72 : decode cX11_readStep 72 = .ok (.iload_n 2, 1) := by decide +kernel
theorem dX11_readStep_73 : decode cX11_readStep 73 = .ok (.invokestatic 241, 3) := by decide +kernel
theorem dX11_readStep_76 : decode cX11_readStep 76 = .ok (.if_icmp .gt 42, 3) := by decide +kernel
theorem dX11_readStep_79 : decode cX11_readStep 79 = .ok (.aload_n 0, 1) := by decide +kernel
theorem dX11_readStep_80 : decode cX11_readStep 80 = .ok (.getfield 151, 3) := by decide +kernel
theorem dX11_readStep_83 : decode cX11_readStep 83 = .ok (.iconst (-1), 1) := by decide +kernel
theorem dX11_readStep_84 : decode cX11_readStep 84 = .ok (.if_icmp .ne 11, 3) := by decide +kernel
theorem dX11_readStep_87 : decode cX11_readStep 87 = .ok (.aload_n 0, 1) := by decide +kernel
theorem dX11_readStep_88 : decode cX11_readStep 88 = .ok (.getfield 129, 3) := by decide +kernel
theorem dX11_readStep_91 : decode cX11_readStep 91 = .ok (.iconst 2, 1) := by decide +kernel
theorem dX11_readStep_92 : decode cX11_readStep 92 = .ok (.if_icmp .eq 10, 3) := by decide +kernel
theorem dX11_readStep_95 : decode cX11_readStep 95 = .ok (.aload_n 0, 1) := by decide +kernel
theorem dX11_readStep_96 : decode cX11_readStep 96 = .ok (.invokevirtual 154, 3) := by decide +kernel
theorem dX11_readStep_99 : decode cX11_readStep 99 = .ok (.goto 19, 3) := by decide +kernel
theorem dX11_readStep_102 : decode cX11_readStep 102 = .ok (.aload_n 0, 1) := by decide +kernel
theorem dX11_readStep_103 : decode cX11_readStep 103 = .ok (.getfield 26, 3) := by decide +kernel
theorem dX11_readStep_106 : decode cX11_readStep 106 = .ok (.iload_n 1, 1) := by decide +kernel
theorem dX11_readStep_107 : decode cX11_readStep 107 = .ok (.iload_n 3, 1) := by decide +kernel
theorem dX11_readStep_108 : decode cX11_readStep 108 = .ok (.iadd, 1) := by decide +kernel
theorem dX11_readStep_109 : decode cX11_readStep 109 = .ok (.aload_n 0, 1) := by decide +kernel
theorem dX11_readStep_110 : decode cX11_readStep 110 = .ok (.getfield 136, 3) := by decide +kernel
theorem dX11_readStep_113 : decode cX11_readStep 113 = .ok (.iastore, 1) := by decide +kernel
theorem dX11_readStep_114 : decode cX11_readStep 114 = .ok (.aload_n 0, 1) := by decide +kernel
theorem dX11_readStep_115 : decode cX11_readStep 115 = .ok (.invokevirtual 157, 3) := by decide +kernel
theorem dX11_readStep_118 : decode cX11_readStep 118 = .ok (.iinc 3 1, 3) := by decide +kernel
theorem dX11_readStep_121 : decode cX11_readStep 121 = .ok (.goto (-65), 3) := by decide +kernel
theorem dX11_readStep_124 : decode cX11_readStep 124 = .ok (.return_, 1) := by decide +kernel
theorem dX11_readScript_0 : decode cX11_readScript 0 = .ok (.aload_n 0, 1) := by decide +kernel
theorem dX11_readScript_1 : decode cX11_readScript 1 = .ok (.invokevirtual 202, 3) := by decide +kernel
theorem dX11_readScript_4 : decode cX11_readScript 4 = .ok (.aload_n 0, 1) := by decide +kernel
theorem dX11_readScript_5 : decode cX11_readScript 5 = .ok (.getfield 29, 3) := by decide +kernel
theorem dX11_readScript_8 : decode cX11_readScript 8 = .ok (.iload_n 1, 1) := by decide +kernel
theorem dX11_readScript_9 : decode cX11_readScript 9 = .ok (.iconst 0, 1) := by decide +kernel
theorem dX11_readScript_10 : decode cX11_readScript 10 = .ok (.iastore, 1) := by decide +kernel
theorem dX11_readScript_11 : decode cX11_readScript 11 = .ok (.iconst 1, 1) := by decide +kernel
theorem dX11_readScript_12 : decode cX11_readScript 12 = .ok (.istore_n 2, 1) := by decide +kernel
theorem dX11_readScript_13 : decode cX11_readScript 13 = .ok (.iload_n 2, 1) := by decide +kernel
theorem dX11_readScript_14 : decode cX11_readScript 14 = .ok (.ifCond .eq 74, 3) := by decide +kernel
theorem dX11_readScript_17 : decode cX11_readScript 17 = .ok (.aload_n 0, 1) := by decide +kernel
theorem dX11_readScript_18 : decode cX11_readScript 18 = .ok (.iconst 3, 1) := by decide +kernel
theorem dX11_readScript_19 : decode cX11_readScript 19 = .ok (.bipush 12, 2) := by decide +kernel
theorem dX11_readScript_21 : decode cX11_readScript 21 = .ok (.iload_n 1, 1) := by decide +kernel
theorem dX11_readScript_22 : decode cX11_readScript 22 = .ok (.imul, 1) := by decide +kernel
theorem dX11_readScript_23 : decode cX11_readScript 23 = .ok (.aload_n 0, 1) := by decide +kernel
theorem dX11_readScript_24 : decode cX11_readScript 24 = .ok (.getfield 29, 3) := by decide +kernel
theorem dX11_readScript_27 : decode cX11_readScript 27 = .ok (.iload_n 1, 1) := by decide +kernel
theorem dX11_readScript_28 : decode cX11_readScript 28 = .ok (.iaload, 1) := by decide +kernel
theorem dX11_readScript_29 : decode cX11_readScript 29 = .ok (.iadd, 1) := by decide +kernel
theorem dX11_readScript_30 : decode cX11_readScript 30 = .ok (.imul, 1) := by decide +kernel
theorem dX11_readScript_31 : decode cX11_readScript 31 = .ok (.invokevirtual 244, 3) := by decide +kernel
theorem dX11_readScript_34 : decode cX11_readScript 34 = .ok (.aload_n 0, 1) := by decide +kernel
theorem dX11_readScript_35 : decode cX11_readScript 35 = .ok (.getfield 29, 3) := by decide +kernel
theorem dX11_readScript_38 : decode cX11_readScript 38 = .ok (.iload_n 1, 1) := by decide +kernel
theorem dX11_readScript_39 : decode cX11_readScript 39 = .ok (.dup2, 1) := by decide +kernel
theorem dX11_readScript_40 : decode cX11_readScript 40 = .ok (.iaload, 1) := by decide +kernel
theorem dX11_readScript_41 : decode cX11_readScript 41 = .ok (.iconst 1, 1) := by decide +kernel
theorem dX11_readScript_42 : decode cX11_readScript 42 = .ok (.iadd, 1) := by decide +kernel
theorem dX11_readScript_43 : decode cX11_readScript 43 = .ok (.iastore, 1) := by decide +kernel
theorem dX11_readScript_44 : decode cX11_readScript 44 = .ok (.aload_n 0, 1) := by decide +kernel
theorem dX11_readScript_45 : decode cX11_readScript 45 = .ok (.getfield 151, 3) := by decide +kernel
theorem dX11_readScript_48 : decode cX11_readScript 48 = .ok (.iconst (-1), 1) := by decide +kernel
theorem dX11_readScript_49 : decode cX11_readScript 49 = .ok (.if_icmp .ne 26, 3) := by decide +kernel
theorem dX11_readScript_52 : decode cX11_readScript 52 = .ok (.aload_n 0, 1) := by decide +kernel
theorem dX11_readScript_53 : decode cX11_readScript 53 = .ok (.getfield 129, 3) := by decide +kernel
theorem dX11_readScript_56 : decode cX11_readScript 56 = .ok (.iconst 3, 1) := by decide +kernel
theorem dX11_readScript_57 : decode cX11_readScript 57 = .ok (.if_icmp .ne 18, 3) := by decide +kernel
theorem dX11_readScript_60 : decode cX11_readScript 60 = .ok (.aload_n 0, 1) := by decide +kernel
theorem dX11_readScript_61 : decode cX11_readScript 61 = .ok (.getfield 29, 3) := by decide +kernel
theorem dX11_readScript_64 : decode cX11_readScript 64 = .ok (.iload_n 1, 1) := by decide +kernel
theorem dX11_readScript_65 : decode cX11_readScript 65 = .ok (.iaload, 1) := by decide +kernel
theorem dX11_readScript_66 : decode cX11_readScript 66 = .ok (.bipush 12, 2) := by decide +kernel
theorem dX11_readScript_68 : decode cX11_readScript 68 = .ok (.if_icmp .ge 7, 3) := by decide +kernel
theorem dX11_readScript_71 : decode cX11_readScript 71 = .ok (.iconst 1, 1) := by decide +kernel
theorem dX11_readScript_72 : decode cX11_readScript 72 = .ok (.goto 4, 3) := by decide +kernel
theorem dX11_readScript_75 : decode cX11_readScript 75 = .ok (.iconst 0, 1) := by decide +kernel
theorem dX11_readScript_76 : decode cX11_readScript 76 = .ok (.istore_n 2, 1) := by decide +kernel
theorem dX11_readScript_77 : decode cX11_readScript 77 = .ok (.iload_n 2, 1) := by decide +kernel
theorem dX11_readScript_78 : decode cX11_readScript 78 = .ok (.ifCond .eq (-65), 3) := by decide +kernel
theorem dX11_readScript_81 : decode cX11_readScript 81 = .ok (.aload_n 0, 1) := by decide +kernel
theorem dX11_readScript_82 : decode cX11_readScript 82 = .ok (.invokevirtual 157, 3) := by decide +kernel
theorem dX11_readScript_85 : decode cX11_readScript 85 = .ok (.goto (-72), 3) := by decide +kernel
theorem dX11_readScript_88 : decode cX11_readScript 88 = .ok (.aload_n 0, 1) := by decide +kernel
theorem dX11_readScript_89 : decode cX11_readScript 89 = .ok (.getfield 151, 3) := by decide +kernel
theorem dX11_readScript_92 : decode cX11_readScript 92 = .ok (.iconst (-1), 1) := by decide +kernel
theorem dX11_readScript_93 : decode cX11_readScript 93 = .ok (.if_icmp .ne 14, 3) := by decide +kernel
theorem dX11_readScript_96 : decode cX11_readScript 96 = .ok (.aload_n 0, 1) := by decide +kernel
theorem dX11_readScript_97 : decode cX11_readScript 97 = .ok (.getfield 129, 3) := by decide +kernel
theorem dX11_readScript_100 : decode cX11_readScript 100 = .ok (.ifCond .eq 7, 3) := by decide +kernel
theorem dX11_readScript_103 : decode cX11_readScript 103 = .ok (.aload_n 0, 1) := by decide +kernel
theorem dX11_readScript_104 : decode cX11_readScript 104 = .ok (.invokevirtual 154, 3) := by decide +kernel
theorem dX11_readScript_107 : decode cX11_readScript 107 = .ok (.aload_n 0, 1) := by decide +kernel
theorem dX11_readScript_108 : decode cX11_readScript 108 = .ok (.getfield 151, 3) := by decide +kernel
theorem dX11_readScript_111 : decode cX11_readScript 111 = .ok (.ireturn, 1) := by decide +kernel
theorem dX11_fault_0 : decode cX11_fault 0 = .ok (.iload_n 1, 1) := by decide +kernel
theorem dX11_fault_1 : decode cX11_fault 1 = .ok (.ifCond .ne 10, 3) := by decide +kernel
theorem dX11_fault_4 : decode cX11_fault 4 = .ok (.aload_n 0, 1) := by decide +kernel
theorem dX11_fault_5 : decode cX11_fault 5 = .ok (.invokevirtual 248, 3) := by decide +kernel
theorem dX11_fault_8 : decode cX11_fault 8 = .ok (.goto 18, 3) := by decide +kernel
theorem dX11_fault_11 : decode cX11_fault 11 = .ok (.iload_n 1, 1) := by decide +kernel
theorem dX11_fault_12 : decode cX11_fault 12 = .ok (.iconst 1, 1) := by decide +kernel
theorem dX11_fault_13 : decode cX11_fault 13 = .ok (.if_icmp .ne 11, 3) := by decide +kernel
theorem dX11_fault_16 : decode cX11_fault 16 = .ok (.aload_n 0, 1) := by decide +kernel
theorem dX11_fault_17 : decode cX11_fault 17 = .ok (.iconst 4, 1) := by decide +kernel
theorem dX11_fault_18 : decode cX11_fault 18 = .ok (.invokevirtual 251, 3) := by decide +kernel
theorem dX11_fault_21 : decode cX11_fault 21 = .ok (.goto 5, 3) := by decide +kernel
theorem dX11_fault_24 : decode cX11_fault 24 = .ok (.bipush (-2), 2) := by decide +kernel
theorem dX11_fault_26 : decode cX11_fault 26 = .ok (.ireturn, 1) := by decide +kernel
theorem dX11_many_0 : decode cX11_many 0 = .ok (.aload_n 0, 1) := by decide +kernel
theorem dX11_many_1 : decode cX11_many 1 = .ok (.getfield 32, 3) := by decide +kernel
theorem dX11_many_4 : decode cX11_many 4 = .ok (.bipush 48, 2) := by decide +kernel
theorem dX11_many_6 : decode cX11_many 6 = .ok (.iaload, 1) := by decide +kernel
theorem dX11_many_7 : decode cX11_many 7 = .ok (.ireturn, 1) := by decide +kernel
theorem dX11_isPlace_0 : decode cX11_isPlace 0 = .ok (.aload_n 0, 1) := by decide +kernel
theorem dX11_isPlace_1 : decode cX11_isPlace 1 = .ok (.getfield 254, 3) := by decide +kernel
theorem dX11_isPlace_4 : decode cX11_isPlace 4 = .ok (.ifCond .eq 21, 3) := by decide +kernel
theorem dX11_isPlace_7 : decode cX11_isPlace 7 = .ok (.iload_n 1, 1) := by decide +kernel
theorem dX11_isPlace_8 : decode cX11_isPlace 8 = .ok (.iconst 0, 1) := by decide +kernel
theorem dX11_isPlace_9 : decode cX11_isPlace 9 = .ok (.aload_n 0, 1) := by decide +kernel
theorem dX11_isPlace_10 : decode cX11_isPlace 10 = .ok (.invokevirtual 257, 3) := by decide +kernel
theorem dX11_isPlace_13 : decode cX11_isPlace 13 = .ok (.iconst 1, 1) := by decide +kernel
theorem dX11_isPlace_14 : decode cX11_isPlace 14 = .ok (.isub, 1) := by decide +kernel
theorem dX11_isPlace_15 : decode cX11_isPlace 15 = .ok (.invokestatic 103, 3) := by decide +kernel
theorem dX11_isPlace_18 : decode cX11_isPlace 18 = .ok (.ifCond .eq 7, 3) := by decide +kernel
theorem dX11_isPlace_21 : decode cX11_isPlace 21 = .ok (.iconst 1, 1) := by decide +kernel
theorem dX11_isPlace_22 : decode cX11_isPlace 22 = .ok (.goto 4, 3) := by decide +kernel
theorem dX11_isPlace_25 : decode cX11_isPlace 25 = .ok (.iconst 0, 1) := by decide +kernel
theorem dX11_isPlace_26 : decode cX11_isPlace 26 = .ok (.ireturn, 1) := by decide +kernel
theorem dX11_takeTrace_0 : decode cX11_takeTrace 0 = .ok (.aload_n 0, 1) := by decide +kernel
theorem dX11_takeTrace_1 : decode cX11_takeTrace 1 = .ok (.iconst 1, 1) := by decide +kernel
theorem dX11_takeTrace_2 : decode cX11_takeTrace 2 = .ok (.putfield 254, 3) := by decide +kernel
theorem dX11_takeTrace_5 : decode cX11_takeTrace 5 = .ok (.iconst 0, 1) := by decide +kernel
theorem dX11_takeTrace_6 : decode cX11_takeTrace 6 = .ok (.istore_n 1, 1) := by decide +kernel
theorem dX11_takeTrace_7 : decode cX11_takeTrace 7 = .ok (.iload_n 1, 1) := by decide +kernel
theorem dX11_takeTrace_8 : decode cX11_takeTrace 8 = .ok (.sipush 231, 3) := by decide +kernel
theorem dX11_takeTrace_11 : decode cX11_takeTrace 11 = .ok (.if_icmp .ge 16, 3) := by decide +kernel
theorem dX11_takeTrace_14 : decode cX11_takeTrace 14 = .ok (.aload_n 0, 1) := by decide +kernel
theorem dX11_takeTrace_15 : decode cX11_takeTrace 15 = .ok (.getfield 32, 3) := by decide +kernel
theorem dX11_takeTrace_18 : decode cX11_takeTrace 18 = .ok (.iload_n 1, 1) := by decide +kernel
theorem dX11_takeTrace_19 : decode cX11_takeTrace 19 = .ok (.iconst 0, 1) := by decide +kernel
theorem dX11_takeTrace_20 : decode cX11_takeTrace 20 = .ok (.iastore, 1) := by decide +kernel
theorem dX11_takeTrace_21 : decode cX11_takeTrace 21 = .ok (.iinc 1 1, 3) := by decide +kernel
theorem dX11_takeTrace_24 : decode cX11_takeTrace 24 = .ok (.goto (-17), 3) := by decide +kernel
theorem dX11_takeTrace_27 : decode cX11_takeTrace 27 = .ok (.iconst 0, 1) := by decide +kernel
theorem dX11_takeTrace_28 : decode cX11_takeTrace 28 = .ok (.istore_n 1, 1) := by decide +kernel
theorem dX11_takeTrace_29 : decode cX11_takeTrace 29 = .ok (.iload_n 1, 1) := by decide +kernel
theorem dX11_takeTrace_30 : decode cX11_takeTrace 30 = .ok (.aload_n 0, 1) := by decide +kernel
theorem dX11_takeTrace_31 : decode cX11_takeTrace 31 = .ok (.getfield 160, 3) := by decide +kernel
theorem dX11_takeTrace_34 : decode cX11_takeTrace 34 = .ok (.if_icmp .ge 21, 3) := by decide +kernel
theorem dX11_takeTrace_37 : decode cX11_takeTrace 37 = .ok (.aload_n 0, 1) := by decide +kernel
theorem dX11_takeTrace_38 : decode cX11_takeTrace 38 = .ok (.getfield 32, 3) := by decide +kernel
theorem dX11_takeTrace_41 : decode cX11_takeTrace 41 = .ok (.iload_n 1, 1) := by decide +kernel
theorem dX11_takeTrace_42 : decode cX11_takeTrace 42 = .ok (.aload_n 0, 1) := by decide +kernel
theorem dX11_takeTrace_43 : decode cX11_takeTrace 43 = .ok (.getfield 13, 3) := by decide +kernel
theorem dX11_takeTrace_46 : decode cX11_takeTrace 46 = .ok (.iload_n 1, 1) := by decide +kernel
theorem dX11_takeTrace_47 : decode cX11_takeTrace 47 = .ok (.iaload, 1) := by decide +kernel
theorem dX11_takeTrace_48 : decode cX11_takeTrace 48 = .ok (.iastore, 1) := by decide +kernel
theorem dX11_takeTrace_49 : decode cX11_takeTrace 49 = .ok (.iinc 1 1, 3) := by decide +kernel
theorem dX11_takeTrace_52 : decode cX11_takeTrace 52 = .ok (.goto (-23), 3) := by decide +kernel
theorem dX11_takeTrace_55 : decode cX11_takeTrace 55 = .ok (.aload_n 0, 1) := by decide +kernel
theorem dX11_takeTrace_56 : decode cX11_takeTrace 56 = .ok (.getfield 32, 3) := by decide +kernel
theorem dX11_takeTrace_59 : decode cX11_takeTrace 59 = .ok (.bipush 48, 2) := by decide +kernel
theorem dX11_takeTrace_61 : decode cX11_takeTrace 61 = .ok (.aload_n 0, 1) := by decide +kernel
theorem dX11_takeTrace_62 : decode cX11_takeTrace 62 = .ok (.getfield 160, 3) := by decide +kernel
theorem dX11_takeTrace_65 : decode cX11_takeTrace 65 = .ok (.iastore, 1) := by decide +kernel
theorem dX11_takeTrace_66 : decode cX11_takeTrace 66 = .ok (.aload_n 0, 1) := by decide +kernel
theorem dX11_takeTrace_67 : decode cX11_takeTrace 67 = .ok (.getfield 32, 3) := by decide +kernel
theorem dX11_takeTrace_70 : decode cX11_takeTrace 70 = .ok (.bipush 49, 2) := by decide +kernel
theorem dX11_takeTrace_72 : decode cX11_takeTrace 72 = .ok (.aload_n 0, 1) := by decide +kernel
theorem dX11_takeTrace_73 : decode cX11_takeTrace 73 = .ok (.getfield 193, 3) := by decide +kernel
theorem dX11_takeTrace_76 : decode cX11_takeTrace 76 = .ok (.iastore, 1) := by decide +kernel
theorem dX11_takeTrace_77 : decode cX11_takeTrace 77 = .ok (.aload_n 0, 1) := by decide +kernel
theorem dX11_takeTrace_78 : decode cX11_takeTrace 78 = .ok (.aload_n 0, 1) := by decide +kernel
theorem dX11_takeTrace_79 : decode cX11_takeTrace 79 = .ok (.getfield 196, 3) := by decide +kernel
theorem dX11_takeTrace_82 : decode cX11_takeTrace 82 = .ok (.putfield 260, 3) := by decide +kernel
theorem dX11_takeTrace_85 : decode cX11_takeTrace 85 = .ok (.aload_n 0, 1) := by decide +kernel
theorem dX11_takeTrace_86 : decode cX11_takeTrace 86 = .ok (.aload_n 0, 1) := by decide +kernel
theorem dX11_takeTrace_87 : decode cX11_takeTrace 87 = .ok (.getfield 167, 3) := by decide +kernel
theorem dX11_takeTrace_90 : decode cX11_takeTrace 90 = .ok (.putfield 263, 3) := by decide +kernel
theorem dX11_takeTrace_93 : decode cX11_takeTrace 93 = .ok (.iconst 0, 1) := by decide +kernel
theorem dX11_takeTrace_94 : decode cX11_takeTrace 94 = .ok (.istore_n 1, 1) := by decide +kernel
theorem dX11_takeTrace_95 : decode cX11_takeTrace 95 = .ok (.iload_n 1, 1) := by decide +kernel
theorem dX11_takeTrace_96 : decode cX11_takeTrace 96 = .ok (.aload_n 0, 1) := by decide +kernel
theorem dX11_takeTrace_97 : decode cX11_takeTrace 97 = .ok (.getfield 263, 3) := by decide +kernel
theorem dX11_takeTrace_100 : decode cX11_takeTrace 100 = .ok (.if_icmp .ge 45, 3) := by decide +kernel
theorem dX11_takeTrace_103 : decode cX11_takeTrace 103 = .ok (.aload_n 0, 1) := by decide +kernel
theorem dX11_takeTrace_104 : decode cX11_takeTrace 104 = .ok (.getfield 38, 3) := by decide +kernel
theorem dX11_takeTrace_107 : decode cX11_takeTrace 107 = .ok (.iload_n 1, 1) := by decide +kernel
theorem dX11_takeTrace_108 : decode cX11_takeTrace 108 = .ok (.aload_n 0, 1) := by decide +kernel
theorem dX11_takeTrace_109 : decode cX11_takeTrace 109 = .ok (.getfield 16, 3) := by decide +kernel
theorem dX11_takeTrace_112 : decode cX11_takeTrace 112 = .ok (.iload_n 1, 1) := by decide +kernel
theorem dX11_takeTrace_113 : decode cX11_takeTrace 113 = .ok (.iaload, 1) := by decide +kernel
theorem dX11_takeTrace_114 : decode cX11_takeTrace 114 = .ok (.iastore, 1) := by decide +kernel
theorem dX11_takeTrace_115 : decode cX11_takeTrace 115 = .ok (.aload_n 0, 1) := by decide +kernel
theorem dX11_takeTrace_116 : decode cX11_takeTrace 116 = .ok (.getfield 41, 3) := by decide +kernel
theorem dX11_takeTrace_119 : decode cX11_takeTrace 119 = .ok (.iload_n 1, 1) := by decide +kernel
theorem dX11_takeTrace_120 : decode cX11_takeTrace 120 = .ok (.aload_n 0, 1) := by decide +kernel
theorem dX11_takeTrace_121 : decode cX11_takeTrace 121 = .ok (.getfield 19, 3) := by decide +kernel
theorem dX11_takeTrace_124 : decode cX11_takeTrace 124 = .ok (.iload_n 1, 1) := by decide +kernel
theorem dX11_takeTrace_125 : decode cX11_takeTrace 125 = .ok (.iaload, 1) := by decide +kernel
theorem dX11_takeTrace_126 : decode cX11_takeTrace 126 = .ok (.iastore, 1) := by decide +kernel
theorem dX11_takeTrace_127 : decode cX11_takeTrace 127 = .ok (.aload_n 0, 1) := by decide +kernel
theorem dX11_takeTrace_128 : decode cX11_takeTrace 128 = .ok (.getfield 44, 3) := by decide +kernel
theorem dX11_takeTrace_131 : decode cX11_takeTrace 131 = .ok (.iload_n 1, 1) := by decide +kernel
theorem dX11_takeTrace_132 : decode cX11_takeTrace 132 = .ok (.aload_n 0, 1) := by decide +kernel
theorem dX11_takeTrace_133 : decode cX11_takeTrace 133 = .ok (.getfield 22, 3) := by decide +kernel
theorem dX11_takeTrace_136 : decode cX11_takeTrace 136 = .ok (.iload_n 1, 1) := by decide +kernel
theorem dX11_takeTrace_137 : decode cX11_takeTrace 137 = .ok (.laload, 1) := by decide +kernel
theorem dX11_takeTrace_138 : decode cX11_takeTrace 138 = .ok (.lastore, 1) := by decide +kernel
theorem dX11_takeTrace_139 : decode cX11_takeTrace 139 = .ok (.iinc 1 1, 3) := by decide +kernel
theorem dX11_takeTrace_142 : decode cX11_takeTrace 142 = .ok (.goto (-47), 3) := by decide +kernel
theorem dX11_takeTrace_145 : decode cX11_takeTrace 145 = .ok (.aload_n 0, 1) := by decide +kernel
theorem dX11_takeTrace_146 : decode cX11_takeTrace 146 = .ok (.iconst 0, 1) := by decide +kernel
theorem dX11_takeTrace_147 : decode cX11_takeTrace 147 = .ok (.putfield 266, 3) := by decide +kernel
theorem dX11_takeTrace_150 : decode cX11_takeTrace 150 = .ok (.aload_n 0, 1) := by decide +kernel
theorem dX11_takeTrace_151 : decode cX11_takeTrace 151 = .ok (.iconst 0, 1) := by decide +kernel
theorem dX11_takeTrace_152 : decode cX11_takeTrace 152 = .ok (.putfield 269, 3) := by decide +kernel
theorem dX11_takeTrace_155 : decode cX11_takeTrace 155 = .ok (.aload_n 0, 1) := by decide +kernel
theorem dX11_takeTrace_156 : decode cX11_takeTrace 156 = .ok (.invokevirtual 257, 3) := by decide +kernel
theorem dX11_takeTrace_159 : decode cX11_takeTrace 159 = .ok (.ireturn, 1) := by decide +kernel
theorem dX11_text_0 : decode cX11_text 0 = .ok (.iload_n 1, 1) := by decide +kernel
theorem dX11_text_1 : decode cX11_text 1 = .ok (.ifCond .ne 21, 3) := by decide +kernel
theorem dX11_text_4 : decode cX11_text 4 = .ok (.aload_n 0, 1) := by decide +kernel
theorem dX11_text_5 : decode cX11_text 5 = .ok (.invokevirtual 248, 3) := by decide +kernel
theorem dX11_text_8 : decode cX11_text 8 = .ok (.iconst (-1), 1) := by decide +kernel
theorem dX11_text_9 : decode cX11_text 9 = .ok (.if_icmp .ne 13, 3) := by decide +kernel
theorem dX11_text_12 : decode cX11_text 12 = .ok (.aload_n 0, 1) := by decide +kernel
theorem dX11_text_13 : decode cX11_text 13 = .ok (.iconst 0, 1) := by decide +kernel
theorem dX11_text_14 : decode cX11_text 14 = .ok (.putfield 100, 3) := by decide +kernel
theorem dX11_text_17 : decode cX11_text 17 = .ok (.aload_n 0, 1) := by decide +kernel
theorem dX11_text_18 : decode cX11_text 18 = .ok (.invokevirtual 272, 3) := by decide +kernel
theorem dX11_text_21 : decode cX11_text 21 = .ok (.ireturn, 1) := by decide +kernel
theorem dX11_text_22 : decode cX11_text 22 = .ok (.iload_n 1, 1) := by decide +kernel
theorem dX11_text_23 : decode cX11_text 23 = .ok (.iconst 1, 1) := by decide +kernel
theorem dX11_text_24 : decode cX11_text 24 = .ok (.if_icmp .ne 45, 3) := by decide +kernel
theorem dX11_text_27 : decode cX11_text 27 = .ok (.aload_n 0, 1) := by decide +kernel
theorem dX11_text_28 : decode cX11_text 28 = .ok (.getfield 275, 3) := by decide +kernel
theorem dX11_text_31 : decode cX11_text 31 = .ok (.iconst 4, 1) := by decide +kernel
theorem dX11_text_32 : decode cX11_text 32 = .ok (.if_icmp .ge 37, 3) := by decide +kernel
theorem dX11_text_35 : decode cX11_text 35 = .ok (.aload_n 0, 1) := by decide +kernel
theorem dX11_text_36 : decode cX11_text 36 = .ok (.aload_n 0, 1) := by decide +kernel
theorem dX11_text_37 : decode cX11_text 37 = .ok (.getfield 275, 3) := by decide +kernel
theorem dX11_text_40 : decode cX11_text 40 = .ok (.invokevirtual 251, 3) := by decide +kernel
theorem dX11_text_43 : decode cX11_text 43 = .ok (.iconst (-1), 1) := by decide +kernel
theorem dX11_text_44 : decode cX11_text 44 = .ok (.if_icmp .ne 25, 3) := by decide +kernel
theorem dX11_text_47 : decode cX11_text 47 = .ok (.aload_n 0, 1) := by decide +kernel
theorem dX11_text_48 : decode cX11_text 48 = .ok (.iconst 0, 1) := by decide +kernel
theorem dX11_text_49 : decode cX11_text 49 = .ok (.putfield 100, 3) := by decide +kernel
theorem dX11_text_52 : decode cX11_text 52 = .ok (.aload_n 0, 1) := by decide +kernel
theorem dX11_text_53 : decode cX11_text 53 = .ok (.dup, 1) := by decide +kernel
theorem dX11_text_54 : decode cX11_text 54 = .ok (.getfield 275, 3) := by decide +kernel
theorem dX11_text_57 : decode cX11_text 57 = .ok (.iconst 1, 1) := by decide +kernel
theorem dX11_text_58 : decode cX11_text 58 = .ok (.iadd, 1) := by decide +kernel
theorem dX11_text_59 : decode cX11_text 59 = .ok (.putfield 275, 3) := by decide +kernel
theorem dX11_text_62 : decode cX11_text 62 = .ok (.aload_n 0, 1) := by decide +kernel
theorem dX11_text_63 : decode cX11_text 63 = .ok (.getfield 275, 3) := by decide +kernel
theorem dX11_text_66 : decode cX11_text 66 = .ok (.iconst 1, 1) := by decide +kernel
theorem dX11_text_67 : decode cX11_text 67 = .ok (.isub, 1) := by decide +kernel
theorem dX11_text_68 : decode cX11_text 68 = .ok (.ireturn, 1) := by decide +kernel
theorem dX11_text_69 : decode cX11_text 69 = .ok (.iconst (-1), 1) := by decide +kernel
theorem dX11_text_70 : decode cX11_text 70 = .ok (.ireturn, 1) := by decide +kernel
theorem dX11_isAhead_0 : decode cX11_isAhead 0 = .ok (.aload_n 0, 1) := by decide +kernel
theorem dX11_isAhead_1 : decode cX11_isAhead 1 = .ok (.getfield 32, 3) := by decide +kernel
theorem dX11_isAhead_4 : decode cX11_isAhead 4 = .ok (.iload_n 1, 1) := by decide +kernel
theorem dX11_isAhead_5 : decode cX11_isAhead 5 = .ok (.iaload, 1) := by decide +kernel
theorem dX11_isAhead_6 : decode cX11_isAhead 6 = .ok (.aload_n 0, 1) := by decide +kernel
theorem dX11_isAhead_7 : decode cX11_isAhead 7 = .ok (.getfield 32, 3) := by decide +kernel
theorem dX11_isAhead_10 : decode cX11_isAhead 10 = .ok (.iload_n 2, 1) := by decide +kernel
theorem dX11_isAhead_11 : decode cX11_isAhead 11 = .ok (.iaload, 1) := by decide +kernel
theorem dX11_isAhead_12 : decode cX11_isAhead 12 = .ok (.if_icmp .gt 23, 3) := by decide +kernel
theorem dX11_isAhead_15 : decode cX11_isAhead 15 = .ok (.aload_n 0, 1) := by decide +kernel
theorem dX11_isAhead_16 : decode cX11_isAhead 16 = .ok (.getfield 32, 3) := by decide +kernel
theorem dX11_isAhead_19 : decode cX11_isAhead 19 = .ok (.iload_n 1, 1) := by decide +kernel
theorem dX11_isAhead_20 : decode cX11_isAhead 20 = .ok (.iaload, 1) := by decide +kernel
theorem dX11_isAhead_21 : decode cX11_isAhead 21 = .ok (.aload_n 0, 1) := by decide +kernel
theorem dX11_isAhead_22 : decode cX11_isAhead 22 = .ok (.getfield 32, 3) := by decide +kernel
theorem dX11_isAhead_25 : decode cX11_isAhead 25 = .ok (.iload_n 2, 1) := by decide +kernel
theorem dX11_isAhead_26 : decode cX11_isAhead 26 = .ok (.iaload, 1) := by decide +kernel
theorem dX11_isAhead_27 : decode cX11_isAhead 27 = .ok (.if_icmp .ne 12, 3) := by decide +kernel
theorem dX11_isAhead_30 : decode cX11_isAhead 30 = .ok (.iload_n 1, 1) := by decide +kernel
theorem dX11_isAhead_31 : decode cX11_isAhead 31 = .ok (.iload_n 2, 1) := by decide +kernel
theorem dX11_isAhead_32 : decode cX11_isAhead 32 = .ok (.if_icmp .ge 7, 3) := by decide +kernel
theorem dX11_isAhead_35 : decode cX11_isAhead 35 = .ok (.iconst 1, 1) := by decide +kernel
theorem dX11_isAhead_36 : decode cX11_isAhead 36 = .ok (.goto 4, 3) := by decide +kernel
theorem dX11_isAhead_39 : decode cX11_isAhead 39 = .ok (.iconst 0, 1) := by decide +kernel
theorem dX11_isAhead_40 : decode cX11_isAhead 40 = .ok (.ireturn, 1) := by decide +kernel
theorem dX11_nextBehind_0 : decode cX11_nextBehind 0 = .ok (.iconst (-1), 1) := by decide +kernel
theorem dX11_nextBehind_1 : decode cX11_nextBehind 1 = .ok (.istore_n 2, 1) := by decide +kernel
theorem dX11_nextBehind_2 : decode cX11_nextBehind 2 = .ok (.iconst 0, 1) := by decide +kernel
theorem dX11_nextBehind_3 : decode cX11_nextBehind 3 = .ok (.istore_n 3, 1) := by decide +kernel
theorem dX11_nextBehind_4 : decode cX11_nextBehind 4 = .ok (.iload_n 3, 1) := by decide +kernel
theorem dX11_nextBehind_5 : decode cX11_nextBehind 5 = .ok (.aload_n 0, 1) := by decide +kernel
theorem dX11_nextBehind_6 : decode cX11_nextBehind 6 = .ok (.invokevirtual 257, 3) := by decide +kernel
theorem dX11_nextBehind_9 : decode cX11_nextBehind 9 = .ok (.if_icmp .ge 55, 3) := by decide +kernel
theorem dX11_nextBehind_12 : decode cX11_nextBehind 12 = .ok (.iload_n 1, 1) := by decide +kernel
theorem dX11_nextBehind_13 : decode cX11_nextBehind 13 = .ok (.iconst (-1), 1) := by decide +kernel
theorem dX11_nextBehind_14 : decode cX11_nextBehind 14 = .ok (.if_icmp .eq 12, 3) := by decide +kernel
theorem dX11_nextBehind_17 : decode cX11_nextBehind 17 = .ok (.aload_n 0, 1) := by decide +kernel
theorem dX11_nextBehind_18 : decode cX11_nextBehind 18 = .ok (.iload_n 1, 1) := by decide +kernel
theorem dX11_nextBehind_19 : decode cX11_nextBehind 19 = .ok (.iload_n 3, 1) := by decide +kernel
theorem dX11_nextBehind_20 : decode cX11_nextBehind 20 = .ok (.invokevirtual 278, 3) := by decide +kernel
theorem dX11_nextBehind_23 : decode cX11_nextBehind 23 = .ok (.ifCond .eq 7, 3) := by decide +kernel
theorem dX11_nextBehind_26 : decode cX11_nextBehind 26 = .ok (.iconst 1, 1) := by decide +kernel
theorem dX11_nextBehind_27 : decode cX11_nextBehind 27 = .ok (.goto 4, 3) := by decide +kernel
theorem dX11_nextBehind_30 : decode cX11_nextBehind 30 = .ok (.iconst 0, 1) := by decide +kernel
theorem dX11_nextBehind_31 : decode cX11_nextBehind 31 = .ok (.istore 4, 2) := by decide +kernel
theorem dX11_nextBehind_33 : decode cX11_nextBehind 33 = .ok (.iload 4, 2) := by decide +kernel
theorem dX11_nextBehind_35 : decode cX11_nextBehind 35 = .ok (.ifCond .eq 21, 3) := by decide +kernel
theorem dX11_nextBehind_38 : decode cX11_nextBehind 38 = .ok (.iload_n 2, 1) := by decide +kernel
theorem dX11_nextBehind_39 : decode cX11_nextBehind 39 = .ok (.iconst (-1), 1) := by decide +kernel
theorem dX11_nextBehind_40 : decode cX11_nextBehind 40 = .ok (.if_icmp .eq 12, 3) := by decide +kernel
theorem dX11_nextBehind_43 : decode cX11_nextBehind 43 = .ok (.aload_n 0, 1) := by decide +kernel
theorem dX11_nextBehind_44 : decode cX11_nextBehind 44 = .ok (.iload_n 3, 1) := by decide +kernel
theorem dX11_nextBehind_45 : decode cX11_nextBehind 45 = .ok (.iload_n 2, 1) := by decide +kernel
theorem dX11_nextBehind_46 : decode cX11_nextBehind 46 = .ok (.invokevirtual 278, 3) := by decide +kernel
theorem dX11_nextBehind_49 : decode cX11_nextBehind 49 = .ok (.ifCond .eq 7, 3) := by decide +kernel
theorem dX11_nextBehind_52 : decode cX11_nextBehind 52 = .ok (.iload_n 3, 1) := by decide +kernel
theorem dX11_nextBehind_53 : decode cX11_nextBehind 53 = .ok (.goto 4, 3) := by decide +kernel
theorem dX11_nextBehind_56 : decode cX11_nextBehind 56 = .ok (.iload_n 2, 1) := by decide +kernel
theorem dX11_nextBehind_57 : decode cX11_nextBehind 57 = .ok (.istore_n 2, 1) := by decide +kernel
theorem dX11_nextBehind_58 : decode cX11_nextBehind 58 = .ok (.iinc 3 1, 3) := by decide +kernel
theorem dX11_nextBehind_61 : decode cX11_nextBehind 61 = .ok (.goto (-57), 3) := by decide +kernel
theorem dX11_nextBehind_64 : decode cX11_nextBehind 64 = .ok (.iload_n 2, 1) := by decide +kernel
theorem dX11_nextBehind_65 : decode cX11_nextBehind 65 = .ok (.ireturn, 1) := by decide +kernel
theorem dX11_belongsAt_0 : decode cX11_belongsAt 0 = .ok (.iload_n 1, 1) := by decide +kernel
theorem dX11_belongsAt_1 : decode cX11_belongsAt 1 = .ok (.iconst 0, 1) := by decide +kernel
theorem dX11_belongsAt_2 : decode cX11_belongsAt 2 = .ok (.aload_n 0, 1) := by decide +kernel
theorem dX11_belongsAt_3 : decode cX11_belongsAt 3 = .ok (.invokevirtual 257, 3) := by decide +kernel
theorem dX11_belongsAt_6 : decode cX11_belongsAt 6 = .ok (.iconst 1, 1) := by decide +kernel
theorem dX11_belongsAt_7 : decode cX11_belongsAt 7 = .ok (.isub, 1) := by decide +kernel
theorem dX11_belongsAt_8 : decode cX11_belongsAt 8 = .ok (.invokestatic 103, 3) := by decide +kernel
theorem dX11_belongsAt_11 : decode cX11_belongsAt 11 = .ok (.ifCond .eq 12, 3) := by decide +kernel
theorem dX11_belongsAt_14 : decode cX11_belongsAt 14 = .ok (.aload_n 0, 1) := by decide +kernel
theorem dX11_belongsAt_15 : decode cX11_belongsAt 15 = .ok (.getfield 59, 3) := by decide +kernel
theorem dX11_belongsAt_18 : decode cX11_belongsAt 18 = .ok (.iload_n 1, 1) := by decide +kernel
theorem dX11_belongsAt_19 : decode cX11_belongsAt 19 = .ok (.iaload, 1) := by decide +kernel
theorem dX11_belongsAt_20 : decode cX11_belongsAt 20 = .ok (.goto 4, 3) := by decide +kernel
theorem dX11_belongsAt_23 : decode cX11_belongsAt 23 = .ok (.iconst (-1), 1) := by decide +kernel
theorem dX11_belongsAt_24 : decode cX11_belongsAt 24 = .ok (.ireturn, 1) := by decide +kernel
theorem dX11_beginsAt_0 : decode cX11_beginsAt 0 = .ok (.aload_n 0, 1) := by decide +kernel
theorem dX11_beginsAt_1 : decode cX11_beginsAt 1 = .ok (.getfield 47, 3) := by decide +kernel
theorem dX11_beginsAt_4 : decode cX11_beginsAt 4 = .ok (.aload_n 0, 1) := by decide +kernel
theorem dX11_beginsAt_5 : decode cX11_beginsAt 5 = .ok (.getfield 281, 3) := by decide +kernel
theorem dX11_beginsAt_8 : decode cX11_beginsAt 8 = .ok (.iload_n 1, 1) := by decide +kernel
theorem dX11_beginsAt_9 : decode cX11_beginsAt 9 = .ok (.iastore, 1) := by decide +kernel
theorem dX11_beginsAt_10 : decode cX11_beginsAt 10 = .ok (.aload_n 0, 1) := by decide +kernel
theorem dX11_beginsAt_11 : decode cX11_beginsAt 11 = .ok (.getfield 50, 3) := by decide +kernel
theorem dX11_beginsAt_14 : decode cX11_beginsAt 14 = .ok (.aload_n 0, 1) := by decide +kernel
theorem dX11_beginsAt_15 : decode cX11_beginsAt 15 = .ok (.getfield 281, 3) := by decide +kernel
theorem dX11_beginsAt_18 : decode cX11_beginsAt 18 = .ok (.iconst (-1), 1) := by decide +kernel
theorem dX11_beginsAt_19 : decode cX11_beginsAt 19 = .ok (.iastore, 1) := by decide +kernel
theorem dX11_beginsAt_20 : decode cX11_beginsAt 20 = .ok (.aload_n 0, 1) := by decide +kernel
theorem dX11_beginsAt_21 : decode cX11_beginsAt 21 = .ok (.getfield 56, 3) := by decide +kernel
theorem dX11_beginsAt_24 : decode cX11_beginsAt 24 = .ok (.aload_n 0, 1) := by decide +kernel
theorem dX11_beginsAt_25 : decode cX11_beginsAt 25 = .ok (.getfield 281, 3) := by decide +kernel
theorem dX11_beginsAt_28 : decode cX11_beginsAt 28 = .ok (.iconst (-1), 1) := by decide +kernel
theorem dX11_beginsAt_29 : decode cX11_beginsAt 29 = .ok (.iastore, 1) := by decide +kernel
theorem dX11_beginsAt_30 : decode cX11_beginsAt 30 = .ok (.aload_n 0, 1) := by decide +kernel
theorem dX11_beginsAt_31 : decode cX11_beginsAt 31 = .ok (.getfield 59, 3) := by decide +kernel
theorem dX11_beginsAt_34 : decode cX11_beginsAt 34 = .ok (.iload_n 1, 1) := by decide +kernel
theorem dX11_beginsAt_35 : decode cX11_beginsAt 35 = .ok (.aload_n 0, 1) := by decide +kernel
theorem dX11_beginsAt_36 : decode cX11_beginsAt 36 = .ok (.getfield 281, 3) := by decide +kernel
theorem dX11_beginsAt_39 : decode cX11_beginsAt 39 = .ok (.iastore, 1) := by decide +kernel
theorem dX11_beginsAt_40 : decode cX11_beginsAt 40 = .ok (.aload_n 0, 1) := by decide +kernel
theorem dX11_beginsAt_41 : decode cX11_beginsAt 41 = .ok (.dup, 1) := by decide +kernel
theorem dX11_beginsAt_42 : decode cX11_beginsAt 42 = .ok (.getfield 281, 3) := by decide +kernel
theorem dX11_beginsAt_45 : decode cX11_beginsAt 45 = .ok (.iconst 1, 1) := by decide +kernel
theorem dX11_beginsAt_46 : decode cX11_beginsAt 46 = .ok (.iadd, 1) := by decide +kernel
theorem dX11_beginsAt_47 : decode cX11_beginsAt 47 = .ok (.putfield 281, 3) := by decide +kernel
theorem dX11_beginsAt_50 : decode cX11_beginsAt 50 = .ok (.return_, 1) := by decide +kernel
theorem dX11_joins_0 : decode cX11_joins 0 = .ok (.iload_n 1, 1) := by decide +kernel
theorem dX11_joins_1 : decode cX11_joins 1 = .ok (.iload_n 2, 1) := by decide +kernel
theorem dX11_joins_2 : decode cX11_joins 2 = .ok (.invokestatic 284, 3) := by decide +kernel
theorem dX11_joins_5 : decode cX11_joins 5 = .ok (.istore 4, 2) := by decide +kernel
theorem dX11_joins_7 : decode cX11_joins 7 = .ok (.iload_n 1, 1) := by decide +kernel
theorem dX11_joins_8 : decode cX11_joins 8 = .ok (.iload_n 2, 1) := by decide +kernel
theorem dX11_joins_9 : decode cX11_joins 9 = .ok (.invokestatic 289, 3) := by decide +kernel
theorem dX11_joins_12 : decode cX11_joins 12 = .ok (.istore 5, 2) := by decide +kernel
theorem dX11_joins_14 : decode cX11_joins 14 = .ok (.aload_n 0, 1) := by decide +kernel
theorem dX11_joins_15 : decode cX11_joins 15 = .ok (.getfield 50, 3) := by decide +kernel
theorem dX11_joins_18 : decode cX11_joins 18 = .ok (.iload 5, 2) := by decide +kernel
theorem dX11_joins_20 : decode cX11_joins 20 = .ok (.iload_n 3, 1) := by decide +kernel
theorem dX11_joins_21 : decode cX11_joins 21 = .ok (.iastore, 1) := by decide +kernel
theorem dX11_joins_22 : decode cX11_joins 22 = .ok (.aload_n 0, 1) := by decide +kernel
theorem dX11_joins_23 : decode cX11_joins 23 = .ok (.getfield 53, 3) := by decide +kernel
theorem dX11_joins_26 : decode cX11_joins 26 = .ok (.iload 5, 2) := by decide +kernel
theorem dX11_joins_28 : decode cX11_joins 28 = .ok (.aload_n 0, 1) := by decide +kernel
theorem dX11_joins_29 : decode cX11_joins 29 = .ok (.getfield 32, 3) := by decide +kernel
theorem dX11_joins_32 : decode cX11_joins 32 = .ok (.iload_n 3, 1) := by decide +kernel
theorem dX11_joins_33 : decode cX11_joins 33 = .ok (.iaload, 1) := by decide +kernel
theorem dX11_joins_34 : decode cX11_joins 34 = .ok (.iastore, 1) := by decide +kernel
theorem dX11_joins_35 : decode cX11_joins 35 = .ok (.aload_n 0, 1) := by decide +kernel
theorem dX11_joins_36 : decode cX11_joins 36 = .ok (.getfield 56, 3) := by decide +kernel
theorem dX11_joins_39 : decode cX11_joins 39 = .ok (.iload 5, 2) := by decide +kernel
theorem dX11_joins_41 : decode cX11_joins 41 = .ok (.iload 4, 2) := by decide +kernel
theorem dX11_joins_43 : decode cX11_joins 43 = .ok (.iastore, 1) := by decide +kernel
theorem dX11_joins_44 : decode cX11_joins 44 = .ok (.iconst 0, 1) := by decide +kernel
theorem dX11_joins_45 : decode cX11_joins 45 = .ok (.istore 6, 2) := by decide +kernel
theorem dX11_joins_47 : decode cX11_joins 47 = .ok (.iload 6, 2) := by decide +kernel
theorem dX11_joins_49 : decode cX11_joins 49 = .ok (.aload_n 0, 1) := by decide +kernel
theorem dX11_joins_50 : decode cX11_joins 50 = .ok (.invokevirtual 257, 3) := by decide +kernel
theorem dX11_joins_53 : decode cX11_joins 53 = .ok (.if_icmp .ge 40, 3) := by decide +kernel
theorem dX11_joins_56 : decode cX11_joins 56 = .ok (.aload_n 0, 1) := by decide +kernel
theorem dX11_joins_57 : decode cX11_joins 57 = .ok (.getfield 59, 3) := by decide +kernel
theorem dX11_joins_60 : decode cX11_joins 60 = .ok (.iload 6, 2) := by decide +kernel
theorem dX11_joins_62 : decode cX11_joins 62 = .ok (.aload_n 0, 1) := by decide +kernel
theorem dX11_joins_63 : decode cX11_joins 63 = .ok (.getfield 59, 3) := by decide +kernel
theorem dX11_joins_66 : decode cX11_joins 66 = .ok (.iload 6, 2) := by decide +kernel
theorem dX11_joins_68 : decode cX11_joins 68 = .ok (.iaload, 1) := by decide +kernel
theorem dX11_joins_69 : decode cX11_joins 69 = .ok (.iload 5, 2) := by decide +kernel
theorem dX11_joins_71 : decode cX11_joins 71 = .ok (.if_icmp .ne 8, 3) := by decide +kernel
theorem dX11_joins_74 : decode cX11_joins 74 = .ok (.iload 4, 2) := by decide +kernel
theorem dX11_joins_76 : decode cX11_joins 76 = .ok (.goto 10, 3) := by decide +kernel
theorem dX11_joins_79 : decode cX11_joins 79 = .ok (.aload_n 0, 1) := by decide +kernel
theorem dX11_joins_80 : decode cX11_joins 80 = .ok (.getfield 59, 3) := by decide +kernel
theorem dX11_joins_83 : decode cX11_joins 83 = .ok (.iload 6, 2) := by decide +kernel
theorem dX11_joins_85 : decode cX11_joins 85 = .ok (.iaload, 1) := by decide +kernel
theorem dX11_joins_86 : decode cX11_joins 86 = .ok (.iastore, 1) := by decide +kernel
theorem dX11_joins_87 : decode cX11_joins 87 = .ok (.iinc 6 1, 3) := by decide +kernel
theorem dX11_joins_90 : decode cX11_joins 90 = .ok (.goto (-43), 3) := by decide +kernel
theorem dX11_joins_93 : decode cX11_joins 93 = .ok (.aload_n 0, 1) := by decide +kernel
theorem dX11_joins_94 : decode cX11_joins 94 = .ok (.getfield 59, 3) := by decide +kernel
theorem dX11_joins_97 : decode cX11_joins 97 = .ok (.iload_n 3, 1) := by decide +kernel
theorem dX11_joins_98 : decode cX11_joins 98 = .ok (.iload 4, 2) := by decide +kernel
theorem dX11_joins_100 : decode cX11_joins 100 = .ok (.iastore, 1) := by decide +kernel
theorem dX11_joins_101 : decode cX11_joins 101 = .ok (.return_, 1) := by decide +kernel
theorem dX11_least_0 : decode cX11_least 0 = .ok (.aload_n 0, 1) := by decide +kernel
theorem dX11_least_1 : decode cX11_least 1 = .ok (.getfield 32, 3) := by decide +kernel
theorem dX11_least_4 : decode cX11_least 4 = .ok (.iconst 0, 1) := by decide +kernel
theorem dX11_least_5 : decode cX11_least 5 = .ok (.iaload, 1) := by decide +kernel
theorem dX11_least_6 : decode cX11_least 6 = .ok (.istore_n 1, 1) := by decide +kernel
theorem dX11_least_7 : decode cX11_least 7 = .ok (.iconst 1, 1) := by decide +kernel
theorem dX11_least_8 : decode cX11_least 8 = .ok (.istore_n 2, 1) := by decide +kernel
theorem dX11_least_9 : decode cX11_least 9 = .ok (.iload_n 2, 1) := by decide +kernel
theorem dX11_least_10 : decode cX11_least 10 = .ok (.aload_n 0, 1) := by decide +kernel
theorem dX11_least_11 : decode cX11_least 11 = .ok (.invokevirtual 257, 3) := by decide +kernel
theorem dX11_least_14 : decode cX11_least 14 = .ok (.if_icmp .ge 20, 3) := by decide +kernel
theorem dX11_least_17 : decode cX11_least 17 = .ok (.iload_n 1, 1) := by decide +kernel
theorem dX11_least_18 : decode cX11_least 18 = .ok (.aload_n 0, 1) := by decide +kernel
theorem dX11_least_19 : decode cX11_least 19 = .ok (.getfield 32, 3) := by decide +kernel
theorem dX11_least_22 : decode cX11_least 22 = .ok (.iload_n 2, 1) := by decide +kernel
theorem dX11_least_23 : decode cX11_least 23 = .ok (.iaload, 1) := by decide +kernel
theorem dX11_least_24 : decode cX11_least 24 = .ok (.invokestatic 284, 3) := by decide +kernel
theorem dX11_least_27 : decode cX11_least 27 = .ok (.istore_n 1, 1) := by decide +kernel
theorem dX11_least_28 : decode cX11_least 28 = .ok (.iinc 2 1, 3) := by decide +kernel
theorem dX11_least_31 : decode cX11_least 31 = .ok (.goto (-22), 3) := by decide +kernel
theorem dX11_least_34 : decode cX11_least 34 = .ok (.iload_n 1, 1) := by decide +kernel
theorem dX11_least_35 : decode cX11_least 35 = .ok (.ireturn, 1) := by decide +kernel
theorem dX11_lets_0 : decode cX11_lets 0 = .ok (.aload_n 0, 1) := by decide +kernel
theorem dX11_lets_1 : decode cX11_lets 1 = .ok (.iconst 0, 1) := by decide +kernel
theorem dX11_lets_2 : decode cX11_lets 2 = .ok (.putfield 281, 3) := by decide +kernel
theorem dX11_lets_5 : decode cX11_lets 5 = .ok (.iconst 0, 1) := by decide +kernel
theorem dX11_lets_6 : decode cX11_lets 6 = .ok (.istore_n 1, 1) := by decide +kernel
theorem dX11_lets_7 : decode cX11_lets 7 = .ok (.iload_n 1, 1) := by decide +kernel
theorem dX11_lets_8 : decode cX11_lets 8 = .ok (.aload_n 0, 1) := by decide +kernel
theorem dX11_lets_9 : decode cX11_lets 9 = .ok (.invokevirtual 257, 3) := by decide +kernel
theorem dX11_lets_12 : decode cX11_lets 12 = .ok (.if_icmp .ge 16, 3) := by decide +kernel
theorem dX11_lets_15 : decode cX11_lets 15 = .ok (.aload_n 0, 1) := by decide +kernel
theorem dX11_lets_16 : decode cX11_lets 16 = .ok (.getfield 59, 3) := by decide +kernel
theorem dX11_lets_19 : decode cX11_lets 19 = .ok (.iload_n 1, 1) := by decide +kernel
theorem dX11_lets_20 : decode cX11_lets 20 = .ok (.iconst (-1), 1) := by decide +kernel
theorem dX11_lets_21 : decode cX11_lets 21 = .ok (.iastore, 1) := by decide +kernel
theorem dX11_lets_22 : decode cX11_lets 22 = .ok (.iinc 1 1, 3) := by decide +kernel
theorem dX11_lets_25 : decode cX11_lets 25 = .ok (.goto (-18), 3) := by decide +kernel
theorem dX11_lets_28 : decode cX11_lets 28 = .ok (.aload_n 0, 1) := by decide +kernel
theorem dX11_lets_29 : decode cX11_lets 29 = .ok (.iconst (-1), 1) := by decide +kernel
theorem dX11_lets_30 : decode cX11_lets 30 = .ok (.invokevirtual 292, 3) := by decide +kernel
theorem dX11_lets_33 : decode cX11_lets 33 = .ok (.istore_n 1, 1) := by decide +kernel
theorem dX11_lets_34 : decode cX11_lets 34 = .ok (.iconst 0, 1) := by decide +kernel
theorem dX11_lets_35 : decode cX11_lets 35 = .ok (.istore_n 2, 1) := by decide +kernel
theorem dX11_lets_36 : decode cX11_lets 36 = .ok (.iload_n 2, 1) := by decide +kernel
theorem dX11_lets_37 : decode cX11_lets 37 = .ok (.aload_n 0, 1) := by decide +kernel
theorem dX11_lets_38 : decode cX11_lets 38 = .ok (.invokevirtual 257, 3) := by decide +kernel
theorem dX11_lets_41 : decode cX11_lets 41 = .ok (.if_icmp .ge 96, 3) := by decide +kernel
theorem dX11_lets_44 : decode cX11_lets 44 = .ok (.aload_n 0, 1) := by decide +kernel
theorem dX11_lets_45 : decode cX11_lets 45 = .ok (.iload_n 1, 1) := by decide +kernel
theorem dX11_lets_46 : decode cX11_lets 46 = .ok (.iconst 1, 1) := by decide +kernel
theorem dX11_lets_47 : decode cX11_lets 47 = .ok (.isub, 1) := by decide +kernel
theorem dX11_lets_48 : decode cX11_lets 48 = .ok (.invokevirtual 295, 3) := by decide +kernel
theorem dX11_lets_51 : decode cX11_lets 51 = .ok (.istore_n 3, 1) := by decide +kernel
theorem dX11_lets_52 : decode cX11_lets 52 = .ok (.aload_n 0, 1) := by decide +kernel
theorem dX11_lets_53 : decode cX11_lets 53 = .ok (.iload_n 1, 1) := by decide +kernel
theorem dX11_lets_54 : decode cX11_lets 54 = .ok (.iconst 1, 1) := by decide +kernel
theorem dX11_lets_55 : decode cX11_lets 55 = .ok (.iadd, 1) := by decide +kernel
theorem dX11_lets_56 : decode cX11_lets 56 = .ok (.invokevirtual 295, 3) := by decide +kernel
theorem dX11_lets_59 : decode cX11_lets 59 = .ok (.istore 4, 2) := by decide +kernel
theorem dX11_lets_61 : decode cX11_lets 61 = .ok (.iload_n 3, 1) := by decide +kernel
theorem dX11_lets_62 : decode cX11_lets 62 = .ok (.iconst (-1), 1) := by decide +kernel
theorem dX11_lets_63 : decode cX11_lets 63 = .ok (.if_icmp .ne 17, 3) := by decide +kernel
theorem dX11_lets_66 : decode cX11_lets 66 = .ok (.iload 4, 2) := by decide +kernel
theorem dX11_lets_68 : decode cX11_lets 68 = .ok (.iconst (-1), 1) := by decide +kernel
theorem dX11_lets_69 : decode cX11_lets 69 = .ok (.if_icmp .ne 11, 3) := by decide +kernel
theorem dX11_lets_72 : decode cX11_lets 72 = .ok (.aload_n 0, 1) := by decide +kernel
theorem dX11_lets_73 : decode cX11_lets 73 = .ok (.iload_n 1, 1) := by decide +kernel
theorem dX11_lets_74 : decode cX11_lets 74 = .ok (.invokevirtual 298, 3) := by decide +kernel
theorem dX11_lets_77 : decode cX11_lets 77 = .ok (.goto 48, 3) := by decide +kernel
theorem dX11_lets_80 : decode cX11_lets 80 = .ok (.iload_n 3, 1) := by decide +kernel
theorem dX11_lets_81 : decode cX11_lets 81 = .ok (.iconst (-1), 1) := by decide +kernel
theorem dX11_lets_82 : decode cX11_lets 82 = .ok (.if_icmp .eq 15, 3) := by decide +kernel
theorem dX11_lets_85 : decode cX11_lets 85 = .ok (.iload 4, 2) := by decide +kernel
theorem dX11_lets_87 : decode cX11_lets 87 = .ok (.iconst (-1), 1) := by decide +kernel
theorem dX11_lets_88 : decode cX11_lets 88 = .ok (.if_icmp .eq 9, 3) := by decide +kernel
theorem dX11_lets_91 : decode cX11_lets 91 = .ok (.iload_n 3, 1) := by decide +kernel
theorem dX11_lets_92 : decode cX11_lets 92 = .ok (.iload 4, 2) := by decide +kernel
theorem dX11_lets_94 : decode cX11_lets 94 = .ok (.if_icmp .ne 23, 3) := by decide +kernel
theorem dX11_lets_97 : decode cX11_lets 97 = .ok (.aload_n 0, 1) := by decide +kernel
theorem dX11_lets_98 : decode cX11_lets 98 = .ok (.getfield 59, 3) := by decide +kernel
theorem dX11_lets_101 : decode cX11_lets 101 = .ok (.iload_n 1, 1) := by decide +kernel
theorem dX11_lets_102 : decode cX11_lets 102 = .ok (.iload_n 3, 1) := by decide +kernel
theorem dX11_lets_103 : decode cX11_lets 103 = .ok (.iconst (-1), 1) := by decide +kernel
theorem dX11_lets_104 : decode cX11_lets 104 = .ok (.if_icmp .ne 8, 3) := by decide +kernel
theorem dX11_lets_107 : decode cX11_lets 107 = .ok (.iload 4, 2) := by decide +kernel
theorem dX11_lets_109 : decode cX11_lets 109 = .ok (.goto 4, 3) := by decide +kernel
theorem dX11_lets_112 : decode cX11_lets 112 = .ok (.iload_n 3, 1) := by decide +kernel
theorem dX11_lets_113 : decode cX11_lets 113 = .ok (.iastore, 1) := by decide +kernel
theorem dX11_lets_114 : decode cX11_lets 114 = .ok (.goto 11, 3) := by decide +kernel
theorem dX11_lets_117 : decode cX11_lets 117 = .ok (.aload_n 0, 1) := by decide +kernel
theorem dX11_lets_118 : decode cX11_lets 118 = .ok (.iload_n 3, 1) := by decide +kernel
theorem dX11_lets_119 : decode cX11_lets 119 = .ok (.iload 4, 2) := by decide +kernel
theorem dX11_lets_121 : decode cX11_lets 121 = .ok (.iload_n 1, 1) := by decide +kernel
theorem dX11_lets_122 : decode cX11_lets 122 = .ok (.invokevirtual 301, 3) := by decide +kernel
theorem dX11_lets_125 : decode cX11_lets 125 = .ok (.aload_n 0, 1) := by decide +kernel
theorem dX11_lets_126 : decode cX11_lets 126 = .ok (.iload_n 1, 1) := by decide +kernel
theorem dX11_lets_127 : decode cX11_lets 127 = .ok (.invokevirtual 292, 3) := by decide +kernel
theorem dX11_lets_130 : decode cX11_lets 130 = .ok (.istore_n 1, 1) := by decide +kernel
theorem dX11_lets_131 : decode cX11_lets 131 = .ok (.iinc 2 1, 3) := by decide +kernel
theorem dX11_lets_134 : decode cX11_lets 134 = .ok (.goto (-98), 3) := by decide +kernel
theorem dX11_lets_137 : decode cX11_lets 137 = .ok (.aload_n 0, 1) := by decide +kernel
theorem dX11_lets_138 : decode cX11_lets 138 = .ok (.getfield 53, 3) := by decide +kernel
theorem dX11_lets_141 : decode cX11_lets 141 = .ok (.iconst 0, 1) := by decide +kernel
theorem dX11_lets_142 : decode cX11_lets 142 = .ok (.aload_n 0, 1) := by decide +kernel
theorem dX11_lets_143 : decode cX11_lets 143 = .ok (.invokevirtual 305, 3) := by decide +kernel
theorem dX11_lets_146 : decode cX11_lets 146 = .ok (.iastore, 1) := by decide +kernel
theorem dX11_lets_147 : decode cX11_lets 147 = .ok (.return_, 1) := by decide +kernel
theorem dX11_lifeOf_0 : decode cX11_lifeOf 0 = .ok (.aload_n 0, 1) := by decide +kernel
theorem dX11_lifeOf_1 : decode cX11_lifeOf 1 = .ok (.getfield 32, 3) := by decide +kernel
theorem dX11_lifeOf_4 : decode cX11_lifeOf 4 = .ok (.aload_n 0, 1) := by decide +kernel
theorem dX11_lifeOf_5 : decode cX11_lifeOf 5 = .ok (.getfield 47, 3) := by decide +kernel
theorem dX11_lifeOf_8 : decode cX11_lifeOf 8 = .ok (.iload_n 1, 1) := by decide +kernel
theorem dX11_lifeOf_9 : decode cX11_lifeOf 9 = .ok (.iaload, 1) := by decide +kernel
theorem dX11_lifeOf_10 : decode cX11_lifeOf 10 = .ok (.iaload, 1) := by decide +kernel
theorem dX11_lifeOf_11 : decode cX11_lifeOf 11 = .ok (.aload_n 0, 1) := by decide +kernel
theorem dX11_lifeOf_12 : decode cX11_lifeOf 12 = .ok (.getfield 53, 3) := by decide +kernel
theorem dX11_lifeOf_15 : decode cX11_lifeOf 15 = .ok (.iload_n 1, 1) := by decide +kernel
theorem dX11_lifeOf_16 : decode cX11_lifeOf 16 = .ok (.iaload, 1) := by decide +kernel
theorem dX11_lifeOf_17 : decode cX11_lifeOf 17 = .ok (.isub, 1) := by decide +kernel
theorem dX11_lifeOf_18 : decode cX11_lifeOf 18 = .ok (.ireturn, 1) := by decide +kernel
theorem dX11_finds_0 : decode cX11_finds 0 = .ok (.aload_n 0, 1) := by decide +kernel
theorem dX11_finds_1 : decode cX11_finds 1 = .ok (.invokevirtual 308, 3) := by decide +kernel
theorem dX11_finds_4 : decode cX11_finds 4 = .ok (.iconst 0, 1) := by decide +kernel
theorem dX11_finds_5 : decode cX11_finds 5 = .ok (.istore_n 1, 1) := by decide +kernel
theorem dX11_finds_6 : decode cX11_finds 6 = .ok (.iload_n 1, 1) := by decide +kernel
theorem dX11_finds_7 : decode cX11_finds 7 = .ok (.aload_n 0, 1) := by decide +kernel
theorem dX11_finds_8 : decode cX11_finds 8 = .ok (.getfield 281, 3) := by decide +kernel
theorem dX11_finds_11 : decode cX11_finds 11 = .ok (.if_icmp .ge 105, 3) := by decide +kernel
theorem dX11_finds_14 : decode cX11_finds 14 = .ok (.iload_n 1, 1) := by decide +kernel
theorem dX11_finds_15 : decode cX11_finds 15 = .ok (.istore_n 2, 1) := by decide +kernel
theorem dX11_finds_16 : decode cX11_finds 16 = .ok (.iload_n 2, 1) := by decide +kernel
theorem dX11_finds_17 : decode cX11_finds 17 = .ok (.iconst 1, 1) := by decide +kernel
theorem dX11_finds_18 : decode cX11_finds 18 = .ok (.if_icmp .le 85, 3) := by decide +kernel
theorem dX11_finds_21 : decode cX11_finds 21 = .ok (.aload_n 0, 1) := by decide +kernel
theorem dX11_finds_22 : decode cX11_finds 22 = .ok (.aload_n 0, 1) := by decide +kernel
theorem dX11_finds_23 : decode cX11_finds 23 = .ok (.getfield 62, 3) := by decide +kernel
theorem dX11_finds_26 : decode cX11_finds 26 = .ok (.iload_n 2, 1) := by decide +kernel
theorem dX11_finds_27 : decode cX11_finds 27 = .ok (.iconst 1, 1) := by decide +kernel
theorem dX11_finds_28 : decode cX11_finds 28 = .ok (.isub, 1) := by decide +kernel
theorem dX11_finds_29 : decode cX11_finds 29 = .ok (.iaload, 1) := by decide +kernel
theorem dX11_finds_30 : decode cX11_finds 30 = .ok (.invokevirtual 311, 3) := by decide +kernel
theorem dX11_finds_33 : decode cX11_finds 33 = .ok (.aload_n 0, 1) := by decide +kernel
theorem dX11_finds_34 : decode cX11_finds 34 = .ok (.iload_n 1, 1) := by decide +kernel
theorem dX11_finds_35 : decode cX11_finds 35 = .ok (.invokevirtual 311, 3) := by decide +kernel
theorem dX11_finds_38 : decode cX11_finds 38 = .ok (.if_icmp .lt 45, 3) := by decide +kernel
theorem dX11_finds_41 : decode cX11_finds 41 = .ok (.aload_n 0, 1) := by decide +kernel
theorem dX11_finds_42 : decode cX11_finds 42 = .ok (.aload_n 0, 1) := by decide +kernel
theorem dX11_finds_43 : decode cX11_finds 43 = .ok (.getfield 62, 3) := by decide +kernel
theorem dX11_finds_46 : decode cX11_finds 46 = .ok (.iload_n 2, 1) := by decide +kernel
theorem dX11_finds_47 : decode cX11_finds 47 = .ok (.iconst 1, 1) := by decide +kernel
theorem dX11_finds_48 : decode cX11_finds 48 = .ok (.isub, 1) := by decide +kernel
theorem dX11_finds_49 : decode cX11_finds 49 = .ok (.iaload, 1) := by decide +kernel
theorem dX11_finds_50 : decode cX11_finds 50 = .ok (.invokevirtual 311, 3) := by decide +kernel
theorem dX11_finds_53 : decode cX11_finds 53 = .ok (.aload_n 0, 1) := by decide +kernel
theorem dX11_finds_54 : decode cX11_finds 54 = .ok (.iload_n 1, 1) := by decide +kernel
theorem dX11_finds_55 : decode cX11_finds 55 = .ok (.invokevirtual 311, 3) := by decide +kernel
theorem dX11_finds_58 : decode cX11_finds 58 = .ok (.if_icmp .ne 45, 3) := by decide +kernel
theorem dX11_finds_61 : decode cX11_finds 61 = .ok (.aload_n 0, 1) := by decide +kernel
theorem dX11_finds_62 : decode cX11_finds 62 = .ok (.getfield 47, 3) := by decide +kernel
theorem dX11_finds_65 : decode cX11_finds 65 = .ok (.aload_n 0, 1) := by decide +kernel
theorem dX11_finds_66 : decode cX11_finds 66 = .ok (.getfield 62, 3) := by decide +kernel
theorem dX11_finds_69 : decode cX11_finds 69 = .ok (.iload_n 2, 1) := by decide +kernel
theorem dX11_finds_70 : decode cX11_finds 70 = .ok (.iconst 1, 1) := by decide +kernel
theorem dX11_finds_71 : decode cX11_finds 71 = .ok (.isub, 1) := by decide +kernel
theorem dX11_finds_72 : decode cX11_finds 72 = .ok (.iaload, 1) := by decide +kernel
theorem dX11_finds_73 : decode cX11_finds 73 = .ok (.iaload, 1) := by decide +kernel
theorem dX11_finds_74 : decode cX11_finds 74 = .ok (.aload_n 0, 1) := by decide +kernel
theorem dX11_finds_75 : decode cX11_finds 75 = .ok (.getfield 47, 3) := by decide +kernel
theorem dX11_finds_78 : decode cX11_finds 78 = .ok (.iload_n 1, 1) := by decide +kernel
theorem dX11_finds_79 : decode cX11_finds 79 = .ok (.iaload, 1) := by decide +kernel
theorem dX11_finds_80 : decode cX11_finds 80 = .ok (.if_icmp .le 23, 3) := by decide +kernel
theorem dX11_finds_83 : decode cX11_finds 83 = .ok (.aload_n 0, 1) := by decide +kernel
theorem dX11_finds_84 : decode cX11_finds 84 = .ok (.getfield 62, 3) := by decide +kernel
theorem dX11_finds_87 : decode cX11_finds 87 = .ok (.iload_n 2, 1) := by decide +kernel
theorem dX11_finds_88 : decode cX11_finds 88 = .ok (.aload_n 0, 1) := by decide +kernel
theorem dX11_finds_89 : decode cX11_finds 89 = .ok (.getfield 62, 3) := by decide +kernel
theorem dX11_finds_92 : decode cX11_finds 92 = .ok (.iload_n 2, 1) := by decide +kernel
theorem dX11_finds_93 : decode cX11_finds 93 = .ok (.iconst 1, 1) := by decide +kernel
theorem dX11_finds_94 : decode cX11_finds 94 = .ok (.isub, 1) := by decide +kernel
theorem dX11_finds_95 : decode cX11_finds 95 = .ok (.iaload, 1) := by decide +kernel
theorem dX11_finds_96 : decode cX11_finds 96 = .ok (.iastore, 1) := by decide +kernel
theorem dX11_finds_97 : decode cX11_finds 97 = .ok (.iinc 2 (-1), 3) := by decide +kernel
theorem dX11_finds_100 : decode cX11_finds 100 = .ok (.goto (-84), 3) := by decide +kernel
theorem dX11_finds_103 : decode cX11_finds 103 = .ok (.aload_n 0, 1) := by decide +kernel
theorem dX11_finds_104 : decode cX11_finds 104 = .ok (.getfield 62, 3) := by decide +kernel
theorem dX11_finds_107 : decode cX11_finds 107 = .ok (.iload_n 2, 1) := by decide +kernel
theorem dX11_finds_108 : decode cX11_finds 108 = .ok (.iload_n 1, 1) := by decide +kernel
theorem dX11_finds_109 : decode cX11_finds 109 = .ok (.iastore, 1) := by decide +kernel
theorem dX11_finds_110 : decode cX11_finds 110 = .ok (.iinc 1 1, 3) := by decide +kernel
theorem dX11_finds_113 : decode cX11_finds 113 = .ok (.goto (-107), 3) := by decide +kernel
theorem dX11_finds_116 : decode cX11_finds 116 = .ok (.aload_n 0, 1) := by decide +kernel
theorem dX11_finds_117 : decode cX11_finds 117 = .ok (.iconst 0, 1) := by decide +kernel
theorem dX11_finds_118 : decode cX11_finds 118 = .ok (.putfield 314, 3) := by decide +kernel
theorem dX11_finds_121 : decode cX11_finds 121 = .ok (.iconst 0, 1) := by decide +kernel
theorem dX11_finds_122 : decode cX11_finds 122 = .ok (.istore_n 1, 1) := by decide +kernel
theorem dX11_finds_123 : decode cX11_finds 123 = .ok (.iload_n 1, 1) := by decide +kernel
theorem dX11_finds_124 : decode cX11_finds 124 = .ok (.aload_n 0, 1) := by decide +kernel
theorem dX11_finds_125 : decode cX11_finds 125 = .ok (.getfield 281, 3) := by decide +kernel
theorem dX11_finds_128 : decode cX11_finds 128 = .ok (.if_icmp .ge 59, 3) := by decide +kernel
theorem dX11_finds_131 : decode cX11_finds 131 = .ok (.aload_n 0, 1) := by decide +kernel
theorem dX11_finds_132 : decode cX11_finds 132 = .ok (.getfield 65, 3) := by decide +kernel
theorem dX11_finds_135 : decode cX11_finds 135 = .ok (.aload_n 0, 1) := by decide +kernel
theorem dX11_finds_136 : decode cX11_finds 136 = .ok (.getfield 62, 3) := by decide +kernel
theorem dX11_finds_139 : decode cX11_finds 139 = .ok (.iload_n 1, 1) := by decide +kernel
theorem dX11_finds_140 : decode cX11_finds 140 = .ok (.iaload, 1) := by decide +kernel
theorem dX11_finds_141 : decode cX11_finds 141 = .ok (.iload_n 1, 1) := by decide +kernel
theorem dX11_finds_142 : decode cX11_finds 142 = .ok (.iastore, 1) := by decide +kernel
theorem dX11_finds_143 : decode cX11_finds 143 = .ok (.aload_n 0, 1) := by decide +kernel
theorem dX11_finds_144 : decode cX11_finds 144 = .ok (.dup, 1) := by decide +kernel
theorem dX11_finds_145 : decode cX11_finds 145 = .ok (.getfield 314, 3) := by decide +kernel
theorem dX11_finds_148 : decode cX11_finds 148 = .ok (.iload_n 1, 1) := by decide +kernel
theorem dX11_finds_149 : decode cX11_finds 149 = .ok (.ifCond .eq 23, 3) := by decide +kernel
theorem dX11_finds_152 : decode cX11_finds 152 = .ok (.aload_n 0, 1) := by decide +kernel
theorem dX11_finds_153 : decode cX11_finds 153 = .ok (.aload_n 0, 1) := by decide +kernel
theorem dX11_finds_154 : decode cX11_finds 154 = .ok (.getfield 62, 3) := by decide +kernel
theorem dX11_finds_157 : decode cX11_finds 157 = .ok (.iload_n 1, 1) := by decide +kernel
theorem dX11_finds_158 : decode cX11_finds 158 = .ok (.iaload, 1) := by decide +kernel
theorem dX11_finds_159 : decode cX11_finds 159 = .ok (.invokevirtual 311, 3) := by decide +kernel
theorem dX11_finds_162 : decode cX11_finds 162 = .ok (.aload_n 0, 1) := by decide +kernel
theorem dX11_finds_163 : decode cX11_finds 163 = .ok (.getfield 32, 3) := by decide +kernel
theorem dX11_finds_166 : decode cX11_finds 166 = .ok (.bipush 49, 2) := by decide +kernel
theorem dX11_finds_168 : decode cX11_finds 168 = .ok (.iaload, 1) := by decide +kernel
theorem dX11_finds_169 : decode cX11_finds 169 = .ok (.if_icmp .le 7, 3) := by decide +kernel
theorem dX11_finds_172 : decode cX11_finds 172 = .ok (.iconst 1, 1) := by decide +kernel
theorem dX11_finds_173 : decode cX11_finds 173 = .ok (.goto 4, 3) := by decide +kernel
theorem dX11_finds_176 : decode cX11_finds 176 = .ok (.iconst 0, 1) := by decide +kernel
theorem dX11_finds_177 : decode cX11_finds 177 = .ok (.iadd, 1) := by decide +kernel
theorem dX11_finds_178 : decode cX11_finds 178 = .ok (.putfield 314, 3) := by decide +kernel
theorem dX11_finds_181 : decode cX11_finds 181 = .ok (.iinc 1 1, 3) := by decide +kernel
theorem dX11_finds_184 : decode cX11_finds 184 = .ok (.goto (-61), 3) := by decide +kernel
theorem dX11_finds_187 : decode cX11_finds 187 = .ok (.aload_n 0, 1) := by decide +kernel
theorem dX11_finds_188 : decode cX11_finds 188 = .ok (.iconst 0, 1) := by decide +kernel
theorem dX11_finds_189 : decode cX11_finds 189 = .ok (.invokevirtual 317, 3) := by decide +kernel
theorem dX11_finds_192 : decode cX11_finds 192 = .ok (.return_, 1) := by decide +kernel
theorem dX11_placeOf_0 : decode cX11_placeOf 0 = .ok (.aload_n 0, 1) := by decide +kernel
theorem dX11_placeOf_1 : decode cX11_placeOf 1 = .ok (.getfield 47, 3) := by decide +kernel
theorem dX11_placeOf_4 : decode cX11_placeOf 4 = .ok (.aload_n 0, 1) := by decide +kernel
theorem dX11_placeOf_5 : decode cX11_placeOf 5 = .ok (.getfield 62, 3) := by decide +kernel
theorem dX11_placeOf_8 : decode cX11_placeOf 8 = .ok (.iload_n 1, 1) := by decide +kernel
theorem dX11_placeOf_9 : decode cX11_placeOf 9 = .ok (.iaload, 1) := by decide +kernel
theorem dX11_placeOf_10 : decode cX11_placeOf 10 = .ok (.iaload, 1) := by decide +kernel
theorem dX11_placeOf_11 : decode cX11_placeOf 11 = .ok (.ireturn, 1) := by decide +kernel
theorem dX11_height_0 : decode cX11_height 0 = .ok (.aload_n 0, 1) := by decide +kernel
theorem dX11_height_1 : decode cX11_height 1 = .ok (.getfield 32, 3) := by decide +kernel
theorem dX11_height_4 : decode cX11_height 4 = .ok (.aload_n 0, 1) := by decide +kernel
theorem dX11_height_5 : decode cX11_height 5 = .ok (.iload_n 1, 1) := by decide +kernel
theorem dX11_height_6 : decode cX11_height 6 = .ok (.invokevirtual 320, 3) := by decide +kernel
theorem dX11_height_9 : decode cX11_height 9 = .ok (.iaload, 1) := by decide +kernel
theorem dX11_height_10 : decode cX11_height 10 = .ok (.ireturn, 1) := by decide +kernel
theorem dX11_life_0 : decode cX11_life 0 = .ok (.aload_n 0, 1) := by decide +kernel
theorem dX11_life_1 : decode cX11_life 1 = .ok (.aload_n 0, 1) := by decide +kernel
theorem dX11_life_2 : decode cX11_life 2 = .ok (.getfield 62, 3) := by decide +kernel
theorem dX11_life_5 : decode cX11_life 5 = .ok (.iload_n 1, 1) := by decide +kernel
theorem dX11_life_6 : decode cX11_life 6 = .ok (.iaload, 1) := by decide +kernel
theorem dX11_life_7 : decode cX11_life 7 = .ok (.invokevirtual 311, 3) := by decide +kernel
theorem dX11_life_10 : decode cX11_life 10 = .ok (.ireturn, 1) := by decide +kernel
theorem dX11_isKept_0 : decode cX11_isKept 0 = .ok (.iload_n 1, 1) := by decide +kernel
theorem dX11_isKept_1 : decode cX11_isKept 1 = .ok (.iconst 0, 1) := by decide +kernel
theorem dX11_isKept_2 : decode cX11_isKept 2 = .ok (.aload_n 0, 1) := by decide +kernel
theorem dX11_isKept_3 : decode cX11_isKept 3 = .ok (.getfield 314, 3) := by decide +kernel
theorem dX11_isKept_6 : decode cX11_isKept 6 = .ok (.iconst 1, 1) := by decide +kernel
theorem dX11_isKept_7 : decode cX11_isKept 7 = .ok (.isub, 1) := by decide +kernel
theorem dX11_isKept_8 : decode cX11_isKept 8 = .ok (.invokestatic 103, 3) := by decide +kernel
theorem dX11_isKept_11 : decode cX11_isKept 11 = .ok (.ireturn, 1) := by decide +kernel
theorem dX11_matches_0 : decode cX11_matches 0 = .ok (.aload_n 0, 1) := by decide +kernel
theorem dX11_matches_1 : decode cX11_matches 1 = .ok (.iconst 0, 1) := by decide +kernel
theorem dX11_matches_2 : decode cX11_matches 2 = .ok (.putfield 323, 3) := by decide +kernel
theorem dX11_matches_5 : decode cX11_matches 5 = .ok (.iconst 0, 1) := by decide +kernel
theorem dX11_matches_6 : decode cX11_matches 6 = .ok (.istore_n 2, 1) := by decide +kernel
theorem dX11_matches_7 : decode cX11_matches 7 = .ok (.iload_n 2, 1) := by decide +kernel
theorem dX11_matches_8 : decode cX11_matches 8 = .ok (.bipush 8, 2) := by decide +kernel
theorem dX11_matches_10 : decode cX11_matches 10 = .ok (.if_icmp .ge 16, 3) := by decide +kernel
theorem dX11_matches_13 : decode cX11_matches 13 = .ok (.aload_n 0, 1) := by decide +kernel
theorem dX11_matches_14 : decode cX11_matches 14 = .ok (.getfield 71, 3) := by decide +kernel
theorem dX11_matches_17 : decode cX11_matches 17 = .ok (.iload_n 2, 1) := by decide +kernel
theorem dX11_matches_18 : decode cX11_matches 18 = .ok (.iconst (-1), 1) := by decide +kernel
theorem dX11_matches_19 : decode cX11_matches 19 = .ok (.iastore, 1) := by decide +kernel
theorem dX11_matches_20 : decode cX11_matches 20 = .ok (.iinc 2 1, 3) := by decide +kernel
theorem dX11_matches_23 : decode cX11_matches 23 = .ok (.goto (-16), 3) := by decide +kernel
theorem dX11_matches_26 : decode cX11_matches 26 = .ok (.iconst 0, 1) := by decide +kernel
theorem dX11_matches_27 : decode cX11_matches 27 = .ok (.istore_n 2, 1) := by decide +kernel
theorem dX11_matches_28 : decode cX11_matches 28 = .ok (.iload_n 2, 1) := by decide +kernel
theorem dX11_matches_29 : decode cX11_matches 29 = .ok (.aload_n 0, 1) := by decide +kernel
theorem dX11_matches_30 : decode cX11_matches 30 = .ok (.getfield 281, 3) := by decide +kernel
theorem dX11_matches_33 : decode cX11_matches 33 = .ok (.if_icmp .ge 195, 3) := by decide +kernel
theorem dX11_matches_36 : decode cX11_matches 36 = .ok (.aload_n 0, 1) := by decide +kernel
theorem dX11_matches_37 : decode cX11_matches 37 = .ok (.getfield 68, 3) := by decide +kernel
theorem dX11_matches_40 : decode cX11_matches 40 = .ok (.iload_n 2, 1) := by decide +kernel
theorem dX11_matches_41 : decode cX11_matches 41 = .ok (.iconst (-1), 1) := by decide +kernel
theorem dX11_matches_42 : decode cX11_matches 42 = .ok (.iastore, 1) := by decide +kernel
theorem dX11_matches_43 : decode cX11_matches 43 = .ok (.iconst 0, 1) := by decide +kernel
theorem dX11_matches_44 : decode cX11_matches 44 = .ok (.istore_n 3, 1) := by decide +kernel
theorem dX11_matches_45 : decode cX11_matches 45 = .ok (.iload_n 3, 1) := by decide +kernel
theorem dX11_matches_46 : decode cX11_matches 46 = .ok (.aload_n 0, 1) := by decide +kernel
theorem dX11_matches_47 : decode cX11_matches 47 = .ok (.getfield 263, 3) := by decide +kernel
theorem dX11_matches_50 : decode cX11_matches 50 = .ok (.if_icmp .ge 140, 3) := by decide +kernel
theorem dX11_matches_53 : decode cX11_matches 53 = .ok (.iload_n 2, 1) := by decide +kernel
theorem dX11_matches_54 : decode cX11_matches 54 = .ok (.aload_n 0, 1) := by decide +kernel
theorem dX11_matches_55 : decode cX11_matches 55 = .ok (.getfield 314, 3) := by decide +kernel
theorem dX11_matches_58 : decode cX11_matches 58 = .ok (.if_icmp .ge 132, 3) := by decide +kernel
theorem dX11_matches_61 : decode cX11_matches 61 = .ok (.aload_n 0, 1) := by decide +kernel
theorem dX11_matches_62 : decode cX11_matches 62 = .ok (.getfield 71, 3) := by decide +kernel
theorem dX11_matches_65 : decode cX11_matches 65 = .ok (.iload_n 3, 1) := by decide +kernel
theorem dX11_matches_66 : decode cX11_matches 66 = .ok (.iaload, 1) := by decide +kernel
theorem dX11_matches_67 : decode cX11_matches 67 = .ok (.iconst (-1), 1) := by decide +kernel
theorem dX11_matches_68 : decode cX11_matches 68 = .ok (.if_icmp .ne 30, 3) := by decide +kernel
theorem dX11_matches_71 : decode cX11_matches 71 = .ok (.aload_n 0, 1) := by decide +kernel
theorem dX11_matches_72 : decode cX11_matches 72 = .ok (.getfield 38, 3) := by decide +kernel
theorem dX11_matches_75 : decode cX11_matches 75 = .ok (.iload_n 3, 1) := by decide +kernel
theorem dX11_matches_76 : decode cX11_matches 76 = .ok (.iaload, 1) := by decide +kernel
theorem dX11_matches_77 : decode cX11_matches 77 = .ok (.aload_n 0, 1) := by decide +kernel
theorem dX11_matches_78 : decode cX11_matches 78 = .ok (.iload_n 2, 1) := by decide +kernel
theorem dX11_matches_79 : decode cX11_matches 79 = .ok (.invokevirtual 320, 3) := by decide +kernel
theorem dX11_matches_82 : decode cX11_matches 82 = .ok (.iload_n 1, 1) := by decide +kernel
theorem dX11_matches_83 : decode cX11_matches 83 = .ok (.iadd, 1) := by decide +kernel
theorem dX11_matches_84 : decode cX11_matches 84 = .ok (.invokestatic 326, 3) := by decide +kernel
theorem dX11_matches_87 : decode cX11_matches 87 = .ok (.aload_n 0, 1) := by decide +kernel
theorem dX11_matches_88 : decode cX11_matches 88 = .ok (.getfield 260, 3) := by decide +kernel
theorem dX11_matches_91 : decode cX11_matches 91 = .ok (.if_icmp .gt 7, 3) := by decide +kernel
theorem dX11_matches_94 : decode cX11_matches 94 = .ok (.iconst 1, 1) := by decide +kernel
theorem dX11_matches_95 : decode cX11_matches 95 = .ok (.goto 4, 3) := by decide +kernel
theorem dX11_matches_98 : decode cX11_matches 98 = .ok (.iconst 0, 1) := by decide +kernel
theorem dX11_matches_99 : decode cX11_matches 99 = .ok (.istore 4, 2) := by decide +kernel
theorem dX11_matches_101 : decode cX11_matches 101 = .ok (.aload_n 0, 1) := by decide +kernel
theorem dX11_matches_102 : decode cX11_matches 102 = .ok (.getfield 68, 3) := by decide +kernel
theorem dX11_matches_105 : decode cX11_matches 105 = .ok (.iload_n 2, 1) := by decide +kernel
theorem dX11_matches_106 : decode cX11_matches 106 = .ok (.iaload, 1) := by decide +kernel
theorem dX11_matches_107 : decode cX11_matches 107 = .ok (.iconst (-1), 1) := by decide +kernel
theorem dX11_matches_108 : decode cX11_matches 108 = .ok (.if_icmp .eq 43, 3) := by decide +kernel
theorem dX11_matches_111 : decode cX11_matches 111 = .ok (.aload_n 0, 1) := by decide +kernel
theorem dX11_matches_112 : decode cX11_matches 112 = .ok (.getfield 38, 3) := by decide +kernel
theorem dX11_matches_115 : decode cX11_matches 115 = .ok (.iload_n 3, 1) := by decide +kernel
theorem dX11_matches_116 : decode cX11_matches 116 = .ok (.iaload, 1) := by decide +kernel
theorem dX11_matches_117 : decode cX11_matches 117 = .ok (.aload_n 0, 1) := by decide +kernel
theorem dX11_matches_118 : decode cX11_matches 118 = .ok (.iload_n 2, 1) := by decide +kernel
theorem dX11_matches_119 : decode cX11_matches 119 = .ok (.invokevirtual 320, 3) := by decide +kernel
theorem dX11_matches_122 : decode cX11_matches 122 = .ok (.iload_n 1, 1) := by decide +kernel
theorem dX11_matches_123 : decode cX11_matches 123 = .ok (.iadd, 1) := by decide +kernel
theorem dX11_matches_124 : decode cX11_matches 124 = .ok (.invokestatic 326, 3) := by decide +kernel
theorem dX11_matches_127 : decode cX11_matches 127 = .ok (.aload_n 0, 1) := by decide +kernel
theorem dX11_matches_128 : decode cX11_matches 128 = .ok (.getfield 38, 3) := by decide +kernel
theorem dX11_matches_131 : decode cX11_matches 131 = .ok (.aload_n 0, 1) := by decide +kernel
theorem dX11_matches_132 : decode cX11_matches 132 = .ok (.getfield 68, 3) := by decide +kernel
theorem dX11_matches_135 : decode cX11_matches 135 = .ok (.iload_n 2, 1) := by decide +kernel
theorem dX11_matches_136 : decode cX11_matches 136 = .ok (.iaload, 1) := by decide +kernel
theorem dX11_matches_137 : decode cX11_matches 137 = .ok (.iaload, 1) := by decide +kernel
theorem dX11_matches_138 : decode cX11_matches 138 = .ok (.aload_n 0, 1) := by decide +kernel
theorem dX11_matches_139 : decode cX11_matches 139 = .ok (.iload_n 2, 1) := by decide +kernel
theorem dX11_matches_140 : decode cX11_matches 140 = .ok (.invokevirtual 320, 3) := by decide +kernel
theorem dX11_matches_143 : decode cX11_matches 143 = .ok (.iload_n 1, 1) := by decide +kernel
theorem dX11_matches_144 : decode cX11_matches 144 = .ok (.iadd, 1) := by decide +kernel
theorem dX11_matches_145 : decode cX11_matches 145 = .ok (.invokestatic 326, 3) := by decide +kernel
theorem dX11_matches_148 : decode cX11_matches 148 = .ok (.if_icmp .ge 7, 3) := by decide +kernel
theorem dX11_matches_151 : decode cX11_matches 151 = .ok (.iconst 1, 1) := by decide +kernel
theorem dX11_matches_152 : decode cX11_matches 152 = .ok (.goto 4, 3) := by decide +kernel
theorem dX11_matches_155 : decode cX11_matches 155 = .ok (.iconst 0, 1) := by decide +kernel
theorem dX11_matches_156 : decode cX11_matches 156 = .ok (.istore 5, 2) := by decide +kernel
theorem dX11_matches_158 : decode cX11_matches 158 = .ok (.aload_n 0, 1) := by decide +kernel
theorem dX11_matches_159 : decode cX11_matches 159 = .ok (.getfield 68, 3) := by decide +kernel
theorem dX11_matches_162 : decode cX11_matches 162 = .ok (.iload_n 2, 1) := by decide +kernel
theorem dX11_matches_163 : decode cX11_matches 163 = .ok (.iload 4, 2) := by decide +kernel
theorem dX11_matches_165 : decode cX11_matches 165 = .ok (.ifCond .eq 12, 3) := by decide +kernel
theorem dX11_matches_168 : decode cX11_matches 168 = .ok (.iload 5, 2) := by decide +kernel
theorem dX11_matches_170 : decode cX11_matches 170 = .ok (.ifCond .eq 7, 3) := by decide +kernel
theorem dX11_matches_173 : decode cX11_matches 173 = .ok (.iload_n 3, 1) := by decide +kernel
theorem dX11_matches_174 : decode cX11_matches 174 = .ok (.goto 9, 3) := by decide +kernel
theorem dX11_matches_177 : decode cX11_matches 177 = .ok (.aload_n 0, 1) := by decide +kernel
theorem dX11_matches_178 : decode cX11_matches 178 = .ok (.getfield 68, 3) := by decide +kernel
theorem dX11_matches_181 : decode cX11_matches 181 = .ok (.iload_n 2, 1) := by decide +kernel
theorem dX11_matches_182 : decode cX11_matches 182 = .ok (.iaload, 1) := by decide +kernel
theorem dX11_matches_183 : decode cX11_matches 183 = .ok (.iastore, 1) := by decide +kernel
theorem dX11_matches_184 : decode cX11_matches 184 = .ok (.iinc 3 1, 3) := by decide +kernel
theorem dX11_matches_187 : decode cX11_matches 187 = .ok (.goto (-142), 3) := by decide +kernel
theorem dX11_matches_190 : decode cX11_matches 190 = .ok (.aload_n 0, 1) := by decide +kernel
theorem dX11_matches_191 : decode cX11_matches 191 = .ok (.getfield 68, 3) := by decide +kernel
theorem dX11_matches_194 : decode cX11_matches 194 = .ok (.iload_n 2, 1) := by decide +kernel
theorem dX11_matches_195 : decode cX11_matches 195 = .ok (.iaload, 1) := by decide +kernel
theorem dX11_matches_196 : decode cX11_matches 196 = .ok (.iconst (-1), 1) := by decide +kernel
theorem dX11_matches_197 : decode cX11_matches 197 = .ok (.if_icmp .eq 25, 3) := by decide +kernel
theorem dX11_matches_200 : decode cX11_matches 200 = .ok (.aload_n 0, 1) := by decide +kernel
theorem dX11_matches_201 : decode cX11_matches 201 = .ok (.getfield 71, 3) := by decide +kernel
theorem dX11_matches_204 : decode cX11_matches 204 = .ok (.aload_n 0, 1) := by decide +kernel
theorem dX11_matches_205 : decode cX11_matches 205 = .ok (.getfield 68, 3) := by decide +kernel
theorem dX11_matches_208 : decode cX11_matches 208 = .ok (.iload_n 2, 1) := by decide +kernel
theorem dX11_matches_209 : decode cX11_matches 209 = .ok (.iaload, 1) := by decide +kernel
theorem dX11_matches_210 : decode cX11_matches 210 = .ok (.iload_n 2, 1) := by decide +kernel
theorem dX11_matches_211 : decode cX11_matches 211 = .ok (.iastore, 1) := by decide +kernel
theorem dX11_matches_212 : decode cX11_matches 212 = .ok (.aload_n 0, 1) := by decide +kernel
theorem dX11_matches_213 : decode cX11_matches 213 = .ok (.dup, 1) := by decide +kernel
theorem dX11_matches_214 : decode cX11_matches 214 = .ok (.getfield 323, 3) := by decide +kernel
theorem dX11_matches_217 : decode cX11_matches 217 = .ok (.iconst 1, 1) := by decide +kernel
theorem dX11_matches_218 : decode cX11_matches 218 = .ok (.iadd, 1) := by decide +kernel
theorem dX11_matches_219 : decode cX11_matches 219 = .ok (.putfield 323, 3) := by decide +kernel
theorem dX11_matches_222 : decode cX11_matches 222 = .ok (.iinc 2 1, 3) := by decide +kernel
theorem dX11_matches_225 : decode cX11_matches 225 = .ok (.goto (-197), 3) := by decide +kernel
theorem dX11_matches_228 : decode cX11_matches 228 = .ok (.return_, 1) := by decide +kernel
theorem dX11_beside_0 : decode cX11_beside 0 = .ok (.iconst (-1), 1) := by decide +kernel
theorem dX11_beside_1 : decode cX11_beside 1 = .ok (.istore_n 3, 1) := by decide +kernel
theorem dX11_beside_2 : decode cX11_beside 2 = .ok (.iconst 0, 1) := by decide +kernel
theorem dX11_beside_3 : decode cX11_beside 3 = .ok (.istore 4, 2) := by decide +kernel
theorem dX11_beside_5 : decode cX11_beside 5 = .ok (.iload 4, 2) := by decide +kernel
theorem dX11_beside_7 : decode cX11_beside 7 = .ok (.aload_n 0, 1) := by decide +kernel
theorem dX11_beside_8 : decode cX11_beside 8 = .ok (.getfield 314, 3) := by decide +kernel
theorem dX11_beside_11 : decode cX11_beside 11 = .ok (.if_icmp .ge 87, 3) := by decide +kernel
theorem dX11_beside_14 : decode cX11_beside 14 = .ok (.iload_n 2, 1) := by decide +kernel
theorem dX11_beside_15 : decode cX11_beside 15 = .ok (.ifCond .le 21, 3) := by decide +kernel
theorem dX11_beside_18 : decode cX11_beside 18 = .ok (.aload_n 0, 1) := by decide +kernel
theorem dX11_beside_19 : decode cX11_beside 19 = .ok (.iload 4, 2) := by decide +kernel
theorem dX11_beside_21 : decode cX11_beside 21 = .ok (.invokevirtual 320, 3) := by decide +kernel
theorem dX11_beside_24 : decode cX11_beside 24 = .ok (.iload_n 1, 1) := by decide +kernel
theorem dX11_beside_25 : decode cX11_beside 25 = .ok (.if_icmp .le 7, 3) := by decide +kernel
theorem dX11_beside_28 : decode cX11_beside 28 = .ok (.iconst 1, 1) := by decide +kernel
theorem dX11_beside_29 : decode cX11_beside 29 = .ok (.goto 22, 3) := by decide +kernel
theorem dX11_beside_32 : decode cX11_beside 32 = .ok (.iconst 0, 1) := by decide +kernel
theorem dX11_beside_33 : decode cX11_beside 33 = .ok (.goto 18, 3) := by decide +kernel
theorem dX11_beside_36 : decode cX11_beside 36 = .ok (.aload_n 0, 1) := by decide +kernel
theorem dX11_beside_37 : decode cX11_beside 37 = .ok (.iload 4, 2) := by decide +kernel
theorem dX11_beside_39 : decode cX11_beside 39 = .ok (.invokevirtual 320, 3) := by decide +kernel
theorem dX11_beside_42 : decode cX11_beside 42 = .ok (.iload_n 1, 1) := by decide +kernel
theorem dX11_beside_43 : decode cX11_beside 43 = .ok (.if_icmp .ge 7, 3) := by decide +kernel
theorem dX11_beside_46 : decode cX11_beside 46 = .ok (.iconst 1, 1) := by decide +kernel
theorem dX11_beside_47 : decode cX11_beside 47 = .ok (.goto 4, 3) := by decide +kernel
theorem dX11_beside_50 : decode cX11_beside 50 = .ok (.iconst 0, 1) := by decide +kernel
theorem dX11_beside_51 : decode cX11_beside 51 = .ok (.istore 5, 2) := by decide +kernel
theorem dX11_beside_53 : decode cX11_beside 53 = .ok (.iload 5, 2) := by decide +kernel
theorem dX11_beside_55 : decode cX11_beside 55 = .ok (.ifCond .eq 35, 3) := by decide +kernel
theorem dX11_beside_58 : decode cX11_beside 58 = .ok (.iload_n 3, 1) := by decide +kernel
theorem dX11_beside_59 : decode cX11_beside 59 = .ok (.iconst (-1), 1) := by decide +kernel
theorem dX11_beside_60 : decode cX11_beside 60 = .ok (.if_icmp .eq 25, 3) := by decide +kernel
theorem dX11_beside_63 : decode cX11_beside 63 = .ok (.aload_n 0, 1) := by decide +kernel
theorem dX11_beside_64 : decode cX11_beside 64 = .ok (.iload 4, 2) := by decide +kernel
theorem dX11_beside_66 : decode cX11_beside 66 = .ok (.invokevirtual 320, 3) := by decide +kernel
theorem dX11_beside_69 : decode cX11_beside 69 = .ok (.iload_n 1, 1) := by decide +kernel
theorem dX11_beside_70 : decode cX11_beside 70 = .ok (.invokestatic 326, 3) := by decide +kernel
theorem dX11_beside_73 : decode cX11_beside 73 = .ok (.aload_n 0, 1) := by decide +kernel
theorem dX11_beside_74 : decode cX11_beside 74 = .ok (.iload_n 3, 1) := by decide +kernel
theorem dX11_beside_75 : decode cX11_beside 75 = .ok (.invokevirtual 320, 3) := by decide +kernel
theorem dX11_beside_78 : decode cX11_beside 78 = .ok (.iload_n 1, 1) := by decide +kernel
theorem dX11_beside_79 : decode cX11_beside 79 = .ok (.invokestatic 326, 3) := by decide +kernel
theorem dX11_beside_82 : decode cX11_beside 82 = .ok (.if_icmp .ge 8, 3) := by decide +kernel
theorem dX11_beside_85 : decode cX11_beside 85 = .ok (.iload 4, 2) := by decide +kernel
theorem dX11_beside_87 : decode cX11_beside 87 = .ok (.goto 4, 3) := by decide +kernel
theorem dX11_beside_90 : decode cX11_beside 90 = .ok (.iload_n 3, 1) := by decide +kernel
theorem dX11_beside_91 : decode cX11_beside 91 = .ok (.istore_n 3, 1) := by decide +kernel
theorem dX11_beside_92 : decode cX11_beside 92 = .ok (.iinc 4 1, 3) := by decide +kernel
theorem dX11_beside_95 : decode cX11_beside 95 = .ok (.goto (-90), 3) := by decide +kernel
theorem dX11_beside_98 : decode cX11_beside 98 = .ok (.iload_n 3, 1) := by decide +kernel
theorem dX11_beside_99 : decode cX11_beside 99 = .ok (.ireturn, 1) := by decide +kernel
theorem dX11_lowBetween_0 : decode cX11_lowBetween 0 = .ok (.iload_n 1, 1) := by decide +kernel
theorem dX11_lowBetween_1 : decode cX11_lowBetween 1 = .ok (.iconst 1, 1) := by decide +kernel
theorem dX11_lowBetween_2 : decode cX11_lowBetween 2 = .ok (.iadd, 1) := by decide +kernel
theorem dX11_lowBetween_3 : decode cX11_lowBetween 3 = .ok (.istore_n 3, 1) := by decide +kernel
theorem dX11_lowBetween_4 : decode cX11_lowBetween 4 = .ok (.iload_n 1, 1) := by decide +kernel
theorem dX11_lowBetween_5 : decode cX11_lowBetween 5 = .ok (.iconst 2, 1) := by decide +kernel
theorem dX11_lowBetween_6 : decode cX11_lowBetween 6 = .ok (.iadd, 1) := by decide +kernel
theorem dX11_lowBetween_7 : decode cX11_lowBetween 7 = .ok (.istore 4, 2) := by decide +kernel
theorem dX11_lowBetween_9 : decode cX11_lowBetween 9 = .ok (.iload 4, 2) := by decide +kernel
theorem dX11_lowBetween_11 : decode cX11_lowBetween 11 = .ok (.iload_n 2, 1) := by decide +kernel
theorem dX11_lowBetween_12 : decode cX11_lowBetween 12 = .ok (.if_icmp .ge 32, 3) := by decide +kernel
theorem dX11_lowBetween_15 : decode cX11_lowBetween 15 = .ok (.aload_n 0, 1) := by decide +kernel
theorem dX11_lowBetween_16 : decode cX11_lowBetween 16 = .ok (.getfield 32, 3) := by decide +kernel
theorem dX11_lowBetween_19 : decode cX11_lowBetween 19 = .ok (.iload 4, 2) := by decide +kernel
theorem dX11_lowBetween_21 : decode cX11_lowBetween 21 = .ok (.iaload, 1) := by decide +kernel
theorem dX11_lowBetween_22 : decode cX11_lowBetween 22 = .ok (.aload_n 0, 1) := by decide +kernel
theorem dX11_lowBetween_23 : decode cX11_lowBetween 23 = .ok (.getfield 32, 3) := by decide +kernel
theorem dX11_lowBetween_26 : decode cX11_lowBetween 26 = .ok (.iload_n 3, 1) := by decide +kernel
theorem dX11_lowBetween_27 : decode cX11_lowBetween 27 = .ok (.iaload, 1) := by decide +kernel
theorem dX11_lowBetween_28 : decode cX11_lowBetween 28 = .ok (.if_icmp .ge 8, 3) := by decide +kernel
theorem dX11_lowBetween_31 : decode cX11_lowBetween 31 = .ok (.iload 4, 2) := by decide +kernel
theorem dX11_lowBetween_33 : decode cX11_lowBetween 33 = .ok (.goto 4, 3) := by decide +kernel
theorem dX11_lowBetween_36 : decode cX11_lowBetween 36 = .ok (.iload_n 3, 1) := by decide +kernel
theorem dX11_lowBetween_37 : decode cX11_lowBetween 37 = .ok (.istore_n 3, 1) := by decide +kernel
theorem dX11_lowBetween_38 : decode cX11_lowBetween 38 = .ok (.iinc 4 1, 3) := by decide +kernel
theorem dX11_lowBetween_41 : decode cX11_lowBetween 41 = .ok (.goto (-32), 3) := by decide +kernel
theorem dX11_lowBetween_44 : decode cX11_lowBetween 44 = .ok (.iload_n 3, 1) := by decide +kernel
theorem dX11_lowBetween_45 : decode cX11_lowBetween 45 = .ok (.ireturn, 1) := by decide +kernel
theorem dX11_firstOf_0 : decode cX11_firstOf 0 = .ok (.aload_n 0, 1) := by decide +kernel
theorem dX11_firstOf_1 : decode cX11_firstOf 1 = .ok (.aload_n 0, 1) := by decide +kernel
theorem dX11_firstOf_2 : decode cX11_firstOf 2 = .ok (.iload_n 1, 1) := by decide +kernel
theorem dX11_firstOf_3 : decode cX11_firstOf 3 = .ok (.invokevirtual 320, 3) := by decide +kernel
theorem dX11_firstOf_6 : decode cX11_firstOf 6 = .ok (.iconst (-1), 1) := by decide +kernel
theorem dX11_firstOf_7 : decode cX11_firstOf 7 = .ok (.invokevirtual 329, 3) := by decide +kernel
theorem dX11_firstOf_10 : decode cX11_firstOf 10 = .ok (.istore_n 2, 1) := by decide +kernel
theorem dX11_firstOf_11 : decode cX11_firstOf 11 = .ok (.iload_n 2, 1) := by decide +kernel
theorem dX11_firstOf_12 : decode cX11_firstOf 12 = .ok (.iconst (-1), 1) := by decide +kernel
theorem dX11_firstOf_13 : decode cX11_firstOf 13 = .ok (.if_icmp .ne 7, 3) := by decide +kernel
theorem dX11_firstOf_16 : decode cX11_firstOf 16 = .ok (.iconst 0, 1) := by decide +kernel
theorem dX11_firstOf_17 : decode cX11_firstOf 17 = .ok (.goto 17, 3) := by decide +kernel
theorem dX11_firstOf_20 : decode cX11_firstOf 20 = .ok (.aload_n 0, 1) := by decide +kernel
theorem dX11_firstOf_21 : decode cX11_firstOf 21 = .ok (.aload_n 0, 1) := by decide +kernel
theorem dX11_firstOf_22 : decode cX11_firstOf 22 = .ok (.iload_n 2, 1) := by decide +kernel
theorem dX11_firstOf_23 : decode cX11_firstOf 23 = .ok (.invokevirtual 320, 3) := by decide +kernel
theorem dX11_firstOf_26 : decode cX11_firstOf 26 = .ok (.aload_n 0, 1) := by decide +kernel
theorem dX11_firstOf_27 : decode cX11_firstOf 27 = .ok (.iload_n 1, 1) := by decide +kernel
theorem dX11_firstOf_28 : decode cX11_firstOf 28 = .ok (.invokevirtual 320, 3) := by decide +kernel
theorem dX11_firstOf_31 : decode cX11_firstOf 31 = .ok (.invokevirtual 332, 3) := by decide +kernel
theorem dX11_firstOf_34 : decode cX11_firstOf 34 = .ok (.ireturn, 1) := by decide +kernel
theorem dX11_lastOf_0 : decode cX11_lastOf 0 = .ok (.aload_n 0, 1) := by decide +kernel
theorem dX11_lastOf_1 : decode cX11_lastOf 1 = .ok (.aload_n 0, 1) := by decide +kernel
theorem dX11_lastOf_2 : decode cX11_lastOf 2 = .ok (.iload_n 1, 1) := by decide +kernel
theorem dX11_lastOf_3 : decode cX11_lastOf 3 = .ok (.invokevirtual 320, 3) := by decide +kernel
theorem dX11_lastOf_6 : decode cX11_lastOf 6 = .ok (.iconst 1, 1) := by decide +kernel
theorem dX11_lastOf_7 : decode cX11_lastOf 7 = .ok (.invokevirtual 329, 3) := by decide +kernel
theorem dX11_lastOf_10 : decode cX11_lastOf 10 = .ok (.istore_n 2, 1) := by decide +kernel
theorem dX11_lastOf_11 : decode cX11_lastOf 11 = .ok (.iload_n 2, 1) := by decide +kernel
theorem dX11_lastOf_12 : decode cX11_lastOf 12 = .ok (.iconst (-1), 1) := by decide +kernel
theorem dX11_lastOf_13 : decode cX11_lastOf 13 = .ok (.if_icmp .ne 12, 3) := by decide +kernel
theorem dX11_lastOf_16 : decode cX11_lastOf 16 = .ok (.aload_n 0, 1) := by decide +kernel
theorem dX11_lastOf_17 : decode cX11_lastOf 17 = .ok (.invokevirtual 257, 3) := by decide +kernel
theorem dX11_lastOf_20 : decode cX11_lastOf 20 = .ok (.iconst 1, 1) := by decide +kernel
theorem dX11_lastOf_21 : decode cX11_lastOf 21 = .ok (.isub, 1) := by decide +kernel
theorem dX11_lastOf_22 : decode cX11_lastOf 22 = .ok (.goto 19, 3) := by decide +kernel
theorem dX11_lastOf_25 : decode cX11_lastOf 25 = .ok (.aload_n 0, 1) := by decide +kernel
theorem dX11_lastOf_26 : decode cX11_lastOf 26 = .ok (.aload_n 0, 1) := by decide +kernel
theorem dX11_lastOf_27 : decode cX11_lastOf 27 = .ok (.iload_n 1, 1) := by decide +kernel
theorem dX11_lastOf_28 : decode cX11_lastOf 28 = .ok (.invokevirtual 320, 3) := by decide +kernel
theorem dX11_lastOf_31 : decode cX11_lastOf 31 = .ok (.aload_n 0, 1) := by decide +kernel
theorem dX11_lastOf_32 : decode cX11_lastOf 32 = .ok (.iload_n 2, 1) := by decide +kernel
theorem dX11_lastOf_33 : decode cX11_lastOf 33 = .ok (.invokevirtual 320, 3) := by decide +kernel
theorem dX11_lastOf_36 : decode cX11_lastOf 36 = .ok (.invokevirtual 332, 3) := by decide +kernel
theorem dX11_lastOf_39 : decode cX11_lastOf 39 = .ok (.iconst 1, 1) := by decide +kernel
theorem dX11_lastOf_40 : decode cX11_lastOf 40 = .ok (.isub, 1) := by decide +kernel
theorem dX11_lastOf_41 : decode cX11_lastOf 41 = .ok (.ireturn, 1) := by decide +kernel
theorem dX11_areaOf_0 : decode cX11_areaOf 0 = .ok (.iconst 0, 1) := by decide +kernel
theorem dX11_areaOf_1 : decode cX11_areaOf 1 = .ok (.istore_n 2, 1) := by decide +kernel
theorem dX11_areaOf_2 : decode cX11_areaOf 2 = .ok (.aload_n 0, 1) := by decide +kernel
theorem dX11_areaOf_3 : decode cX11_areaOf 3 = .ok (.iload_n 1, 1) := by decide +kernel
theorem dX11_areaOf_4 : decode cX11_areaOf 4 = .ok (.invokevirtual 335, 3) := by decide +kernel
theorem dX11_areaOf_7 : decode cX11_areaOf 7 = .ok (.istore_n 3, 1) := by decide +kernel
theorem dX11_areaOf_8 : decode cX11_areaOf 8 = .ok (.iload_n 3, 1) := by decide +kernel
theorem dX11_areaOf_9 : decode cX11_areaOf 9 = .ok (.aload_n 0, 1) := by decide +kernel
theorem dX11_areaOf_10 : decode cX11_areaOf 10 = .ok (.iload_n 1, 1) := by decide +kernel
theorem dX11_areaOf_11 : decode cX11_areaOf 11 = .ok (.invokevirtual 338, 3) := by decide +kernel
theorem dX11_areaOf_14 : decode cX11_areaOf 14 = .ok (.if_icmp .gt 34, 3) := by decide +kernel
theorem dX11_areaOf_17 : decode cX11_areaOf 17 = .ok (.iload_n 2, 1) := by decide +kernel
theorem dX11_areaOf_18 : decode cX11_areaOf 18 = .ok (.iconst 0, 1) := by decide +kernel
theorem dX11_areaOf_19 : decode cX11_areaOf 19 = .ok (.aload_n 0, 1) := by decide +kernel
theorem dX11_areaOf_20 : decode cX11_areaOf 20 = .ok (.getfield 32, 3) := by decide +kernel
theorem dX11_areaOf_23 : decode cX11_areaOf 23 = .ok (.iload_n 3, 1) := by decide +kernel
theorem dX11_areaOf_24 : decode cX11_areaOf 24 = .ok (.iaload, 1) := by decide +kernel
theorem dX11_areaOf_25 : decode cX11_areaOf 25 = .ok (.aload_n 0, 1) := by decide +kernel
theorem dX11_areaOf_26 : decode cX11_areaOf 26 = .ok (.getfield 53, 3) := by decide +kernel
theorem dX11_areaOf_29 : decode cX11_areaOf 29 = .ok (.aload_n 0, 1) := by decide +kernel
theorem dX11_areaOf_30 : decode cX11_areaOf 30 = .ok (.getfield 62, 3) := by decide +kernel
theorem dX11_areaOf_33 : decode cX11_areaOf 33 = .ok (.iload_n 1, 1) := by decide +kernel
theorem dX11_areaOf_34 : decode cX11_areaOf 34 = .ok (.iaload, 1) := by decide +kernel
theorem dX11_areaOf_35 : decode cX11_areaOf 35 = .ok (.iaload, 1) := by decide +kernel
theorem dX11_areaOf_36 : decode cX11_areaOf 36 = .ok (.isub, 1) := by decide +kernel
theorem dX11_areaOf_37 : decode cX11_areaOf 37 = .ok (.invokestatic 289, 3) := by decide +kernel
theorem dX11_areaOf_40 : decode cX11_areaOf 40 = .ok (.iadd, 1) := by decide +kernel
theorem dX11_areaOf_41 : decode cX11_areaOf 41 = .ok (.istore_n 2, 1) := by decide +kernel
theorem dX11_areaOf_42 : decode cX11_areaOf 42 = .ok (.iinc 3 1, 3) := by decide +kernel
theorem dX11_areaOf_45 : decode cX11_areaOf 45 = .ok (.goto (-37), 3) := by decide +kernel
theorem dX11_areaOf_48 : decode cX11_areaOf 48 = .ok (.iload_n 2, 1) := by decide +kernel
theorem dX11_areaOf_49 : decode cX11_areaOf 49 = .ok (.ireturn, 1) := by decide +kernel
theorem dX11_around_0 : decode cX11_around 0 = .ok (.iconst 1, 1) := by decide +kernel
theorem dX11_around_1 : decode cX11_around 1 = .ok (.istore_n 3, 1) := by decide +kernel
theorem dX11_around_2 : decode cX11_around 2 = .ok (.iload_n 1, 1) := by decide +kernel
theorem dX11_around_3 : decode cX11_around 3 = .ok (.iconst 1, 1) := by decide +kernel
theorem dX11_around_4 : decode cX11_around 4 = .ok (.isub, 1) := by decide +kernel
theorem dX11_around_5 : decode cX11_around 5 = .ok (.istore 4, 2) := by decide +kernel
theorem dX11_around_7 : decode cX11_around 7 = .ok (.iload 4, 2) := by decide +kernel
theorem dX11_around_9 : decode cX11_around 9 = .ok (.ifCond .lt 23, 3) := by decide +kernel
theorem dX11_around_12 : decode cX11_around 12 = .ok (.aload_n 0, 1) := by decide +kernel
theorem dX11_around_13 : decode cX11_around 13 = .ok (.getfield 32, 3) := by decide +kernel
theorem dX11_around_16 : decode cX11_around 16 = .ok (.iload 4, 2) := by decide +kernel
theorem dX11_around_18 : decode cX11_around 18 = .ok (.iaload, 1) := by decide +kernel
theorem dX11_around_19 : decode cX11_around 19 = .ok (.iload_n 2, 1) := by decide +kernel
theorem dX11_around_20 : decode cX11_around 20 = .ok (.if_icmp .lt 12, 3) := by decide +kernel
theorem dX11_around_23 : decode cX11_around 23 = .ok (.iinc 3 1, 3) := by decide +kernel
theorem dX11_around_26 : decode cX11_around 26 = .ok (.iinc 4 (-1), 3) := by decide +kernel
theorem dX11_around_29 : decode cX11_around 29 = .ok (.goto (-22), 3) := by decide +kernel
theorem dX11_around_32 : decode cX11_around 32 = .ok (.iload_n 1, 1) := by decide +kernel
theorem dX11_around_33 : decode cX11_around 33 = .ok (.iconst 1, 1) := by decide +kernel
theorem dX11_around_34 : decode cX11_around 34 = .ok (.iadd, 1) := by decide +kernel
theorem dX11_around_35 : decode cX11_around 35 = .ok (.istore 4, 2) := by decide +kernel
theorem dX11_around_37 : decode cX11_around 37 = .ok (.iload 4, 2) := by decide +kernel
theorem dX11_around_39 : decode cX11_around 39 = .ok (.aload_n 0, 1) := by decide +kernel
theorem dX11_around_40 : decode cX11_around 40 = .ok (.invokevirtual 257, 3) := by decide +kernel
theorem dX11_around_43 : decode cX11_around 43 = .ok (.if_icmp .ge 23, 3) := by decide +kernel
theorem dX11_around_46 : decode cX11_around 46 = .ok (.aload_n 0, 1) := by decide +kernel
theorem dX11_around_47 : decode cX11_around 47 = .ok (.getfield 32, 3) := by decide +kernel
theorem dX11_around_50 : decode cX11_around 50 = .ok (.iload 4, 2) := by decide +kernel
theorem dX11_around_52 : decode cX11_around 52 = .ok (.iaload, 1) := by decide +kernel
theorem dX11_around_53 : decode cX11_around 53 = .ok (.iload_n 2, 1) := by decide +kernel
theorem dX11_around_54 : decode cX11_around 54 = .ok (.if_icmp .lt 12, 3) := by decide +kernel
theorem dX11_around_57 : decode cX11_around 57 = .ok (.iinc 3 1, 3) := by decide +kernel
theorem dX11_around_60 : decode cX11_around 60 = .ok (.iinc 4 1, 3) := by decide +kernel
theorem dX11_around_63 : decode cX11_around 63 = .ok (.goto (-26), 3) := by decide +kernel
theorem dX11_around_66 : decode cX11_around 66 = .ok (.iload_n 3, 1) := by decide +kernel
theorem dX11_around_67 : decode cX11_around 67 = .ok (.ireturn, 1) := by decide +kernel
theorem dX11_widthOf_0 : decode cX11_widthOf 0 = .ok (.aload_n 0, 1) := by decide +kernel
theorem dX11_widthOf_1 : decode cX11_widthOf 1 = .ok (.aload_n 0, 1) := by decide +kernel
theorem dX11_widthOf_2 : decode cX11_widthOf 2 = .ok (.iload_n 1, 1) := by decide +kernel
theorem dX11_widthOf_3 : decode cX11_widthOf 3 = .ok (.invokevirtual 320, 3) := by decide +kernel
theorem dX11_widthOf_6 : decode cX11_widthOf 6 = .ok (.aload_n 0, 1) := by decide +kernel
theorem dX11_widthOf_7 : decode cX11_widthOf 7 = .ok (.iload_n 1, 1) := by decide +kernel
theorem dX11_widthOf_8 : decode cX11_widthOf 8 = .ok (.invokevirtual 341, 3) := by decide +kernel
theorem dX11_widthOf_11 : decode cX11_widthOf 11 = .ok (.aload_n 0, 1) := by decide +kernel
theorem dX11_widthOf_12 : decode cX11_widthOf 12 = .ok (.iload_n 1, 1) := by decide +kernel
theorem dX11_widthOf_13 : decode cX11_widthOf 13 = .ok (.invokevirtual 344, 3) := by decide +kernel
theorem dX11_widthOf_16 : decode cX11_widthOf 16 = .ok (.iconst 2, 1) := by decide +kernel
theorem dX11_widthOf_17 : decode cX11_widthOf 17 = .ok (.idiv, 1) := by decide +kernel
theorem dX11_widthOf_18 : decode cX11_widthOf 18 = .ok (.isub, 1) := by decide +kernel
theorem dX11_widthOf_19 : decode cX11_widthOf 19 = .ok (.invokevirtual 347, 3) := by decide +kernel
theorem dX11_widthOf_22 : decode cX11_widthOf 22 = .ok (.ireturn, 1) := by decide +kernel
theorem dX11_generationOf_0 : decode cX11_generationOf 0 = .ok (.iconst 0, 1) := by decide +kernel
theorem dX11_generationOf_1 : decode cX11_generationOf 1 = .ok (.istore_n 2, 1) := by decide +kernel
theorem dX11_generationOf_2 : decode cX11_generationOf 2 = .ok (.aload_n 0, 1) := by decide +kernel
theorem dX11_generationOf_3 : decode cX11_generationOf 3 = .ok (.getfield 62, 3) := by decide +kernel
theorem dX11_generationOf_6 : decode cX11_generationOf 6 = .ok (.iload_n 1, 1) := by decide +kernel
theorem dX11_generationOf_7 : decode cX11_generationOf 7 = .ok (.iaload, 1) := by decide +kernel
theorem dX11_generationOf_8 : decode cX11_generationOf 8 = .ok (.istore_n 3, 1) := by decide +kernel
theorem dX11_generationOf_9 : decode cX11_generationOf 9 = .ok (.aload_n 0, 1) := by decide +kernel
theorem dX11_generationOf_10 : decode cX11_generationOf 10 = .ok (.getfield 56, 3) := by decide +kernel
theorem dX11_generationOf_13 : decode cX11_generationOf 13 = .ok (.iload_n 3, 1) := by decide +kernel
theorem dX11_generationOf_14 : decode cX11_generationOf 14 = .ok (.iaload, 1) := by decide +kernel
theorem dX11_generationOf_15 : decode cX11_generationOf 15 = .ok (.iconst (-1), 1) := by decide +kernel
theorem dX11_generationOf_16 : decode cX11_generationOf 16 = .ok (.if_icmp .eq 16, 3) := by decide +kernel
theorem dX11_generationOf_19 : decode cX11_generationOf 19 = .ok (.iinc 2 1, 3) := by decide +kernel
theorem dX11_generationOf_22 : decode cX11_generationOf 22 = .ok (.aload_n 0, 1) := by decide +kernel
theorem dX11_generationOf_23 : decode cX11_generationOf 23 = .ok (.getfield 56, 3) := by decide +kernel
theorem dX11_generationOf_26 : decode cX11_generationOf 26 = .ok (.iload_n 3, 1) := by decide +kernel
theorem dX11_generationOf_27 : decode cX11_generationOf 27 = .ok (.iaload, 1) := by decide +kernel
theorem dX11_generationOf_28 : decode cX11_generationOf 28 = .ok (.istore_n 3, 1) := by decide +kernel
theorem dX11_generationOf_29 : decode cX11_generationOf 29 = .ok (.goto (-20), 3) := by decide +kernel
theorem dX11_generationOf_32 : decode cX11_generationOf 32 = .ok (.iload_n 2, 1) := by decide +kernel
theorem dX11_generationOf_33 : decode cX11_generationOf 33 = .ok (.ireturn, 1) := by decide +kernel
theorem dX11_keepWas_0 : decode cX11_keepWas 0 = .ok (.iconst 0, 1) := by decide +kernel
theorem dX11_keepWas_1 : decode cX11_keepWas 1 = .ok (.istore_n 1, 1) := by decide +kernel
theorem dX11_keepWas_2 : decode cX11_keepWas 2 = .ok (.iload_n 1, 1) := by decide +kernel
theorem dX11_keepWas_3 : decode cX11_keepWas 3 = .ok (.bipush 48, 2) := by decide +kernel
theorem dX11_keepWas_5 : decode cX11_keepWas 5 = .ok (.if_icmp .ge 21, 3) := by decide +kernel
theorem dX11_keepWas_8 : decode cX11_keepWas 8 = .ok (.aload_n 0, 1) := by decide +kernel
theorem dX11_keepWas_9 : decode cX11_keepWas 9 = .ok (.getfield 74, 3) := by decide +kernel
theorem dX11_keepWas_12 : decode cX11_keepWas 12 = .ok (.iload_n 1, 1) := by decide +kernel
theorem dX11_keepWas_13 : decode cX11_keepWas 13 = .ok (.aload_n 0, 1) := by decide +kernel
theorem dX11_keepWas_14 : decode cX11_keepWas 14 = .ok (.getfield 32, 3) := by decide +kernel
theorem dX11_keepWas_17 : decode cX11_keepWas 17 = .ok (.iload_n 1, 1) := by decide +kernel
theorem dX11_keepWas_18 : decode cX11_keepWas 18 = .ok (.iaload, 1) := by decide +kernel
theorem dX11_keepWas_19 : decode cX11_keepWas 19 = .ok (.iastore, 1) := by decide +kernel
theorem dX11_keepWas_20 : decode cX11_keepWas 20 = .ok (.iinc 1 1, 3) := by decide +kernel
theorem dX11_keepWas_23 : decode cX11_keepWas 23 = .ok (.goto (-21), 3) := by decide +kernel
theorem dX11_keepWas_26 : decode cX11_keepWas 26 = .ok (.return_, 1) := by decide +kernel
theorem dX11_middle_0 : decode cX11_middle 0 = .ok (.iload_n 0, 1) := by decide +kernel
theorem dX11_middle_1 : decode cX11_middle 1 = .ok (.iload_n 1, 1) := by decide +kernel
theorem dX11_middle_2 : decode cX11_middle 2 = .ok (.invokestatic 284, 3) := by decide +kernel
theorem dX11_middle_5 : decode cX11_middle 5 = .ok (.iload_n 0, 1) := by decide +kernel
theorem dX11_middle_6 : decode cX11_middle 6 = .ok (.iload_n 1, 1) := by decide +kernel
theorem dX11_middle_7 : decode cX11_middle 7 = .ok (.invokestatic 289, 3) := by decide +kernel
theorem dX11_middle_10 : decode cX11_middle 10 = .ok (.iload_n 2, 1) := by decide +kernel
theorem dX11_middle_11 : decode cX11_middle 11 = .ok (.invokestatic 284, 3) := by decide +kernel
theorem dX11_middle_14 : decode cX11_middle 14 = .ok (.invokestatic 289, 3) := by decide +kernel
theorem dX11_middle_17 : decode cX11_middle 17 = .ok (.ireturn, 1) := by decide +kernel
theorem dX11_blends_0 : decode cX11_blends 0 = .ok (.aload_n 0, 1) := by decide +kernel
theorem dX11_blends_1 : decode cX11_blends 1 = .ok (.invokevirtual 350, 3) := by decide +kernel
theorem dX11_blends_4 : decode cX11_blends 4 = .ok (.iconst 0, 1) := by decide +kernel
theorem dX11_blends_5 : decode cX11_blends 5 = .ok (.istore_n 2, 1) := by decide +kernel
theorem dX11_blends_6 : decode cX11_blends 6 = .ok (.iload_n 2, 1) := by decide +kernel
theorem dX11_blends_7 : decode cX11_blends 7 = .ok (.aload_n 0, 1) := by decide +kernel
theorem dX11_blends_8 : decode cX11_blends 8 = .ok (.invokevirtual 257, 3) := by decide +kernel
theorem dX11_blends_11 : decode cX11_blends 11 = .ok (.if_icmp .ge 81, 3) := by decide +kernel
theorem dX11_blends_14 : decode cX11_blends 14 = .ok (.aload_n 0, 1) := by decide +kernel
theorem dX11_blends_15 : decode cX11_blends 15 = .ok (.getfield 74, 3) := by decide +kernel
theorem dX11_blends_18 : decode cX11_blends 18 = .ok (.iconst 0, 1) := by decide +kernel
theorem dX11_blends_19 : decode cX11_blends 19 = .ok (.iload_n 2, 1) := by decide +kernel
theorem dX11_blends_20 : decode cX11_blends 20 = .ok (.iconst 1, 1) := by decide +kernel
theorem dX11_blends_21 : decode cX11_blends 21 = .ok (.isub, 1) := by decide +kernel
theorem dX11_blends_22 : decode cX11_blends 22 = .ok (.invokestatic 289, 3) := by decide +kernel
theorem dX11_blends_25 : decode cX11_blends 25 = .ok (.iaload, 1) := by decide +kernel
theorem dX11_blends_26 : decode cX11_blends 26 = .ok (.istore_n 3, 1) := by decide +kernel
theorem dX11_blends_27 : decode cX11_blends 27 = .ok (.aload_n 0, 1) := by decide +kernel
theorem dX11_blends_28 : decode cX11_blends 28 = .ok (.getfield 74, 3) := by decide +kernel
theorem dX11_blends_31 : decode cX11_blends 31 = .ok (.aload_n 0, 1) := by decide +kernel
theorem dX11_blends_32 : decode cX11_blends 32 = .ok (.invokevirtual 257, 3) := by decide +kernel
theorem dX11_blends_35 : decode cX11_blends 35 = .ok (.iconst 1, 1) := by decide +kernel
theorem dX11_blends_36 : decode cX11_blends 36 = .ok (.isub, 1) := by decide +kernel
theorem dX11_blends_37 : decode cX11_blends 37 = .ok (.iload_n 2, 1) := by decide +kernel
theorem dX11_blends_38 : decode cX11_blends 38 = .ok (.iconst 1, 1) := by decide +kernel
theorem dX11_blends_39 : decode cX11_blends 39 = .ok (.iadd, 1) := by decide +kernel
theorem dX11_blends_40 : decode cX11_blends 40 = .ok (.invokestatic 284, 3) := by decide +kernel
theorem dX11_blends_43 : decode cX11_blends 43 = .ok (.iaload, 1) := by decide +kernel
theorem dX11_blends_44 : decode cX11_blends 44 = .ok (.istore 4, 2) := by decide +kernel
theorem dX11_blends_46 : decode cX11_blends 46 = .ok (.aload_n 0, 1) := by decide +kernel
theorem dX11_blends_47 : decode cX11_blends 47 = .ok (.getfield 32, 3) := by decide +kernel
theorem dX11_blends_50 : decode cX11_blends 50 = .ok (.iload_n 2, 1) := by decide +kernel
theorem dX11_blends_51 : decode cX11_blends 51 = .ok (.iload_n 1, 1) := by decide +kernel
theorem dX11_blends_52 : decode cX11_blends 52 = .ok (.ifCond .eq 18, 3) := by decide +kernel
theorem dX11_blends_55 : decode cX11_blends 55 = .ok (.iload_n 3, 1) := by decide +kernel
theorem dX11_blends_56 : decode cX11_blends 56 = .ok (.aload_n 0, 1) := by decide +kernel
theorem dX11_blends_57 : decode cX11_blends 57 = .ok (.getfield 74, 3) := by decide +kernel
theorem dX11_blends_60 : decode cX11_blends 60 = .ok (.iload_n 2, 1) := by decide +kernel
theorem dX11_blends_61 : decode cX11_blends 61 = .ok (.iaload, 1) := by decide +kernel
theorem dX11_blends_62 : decode cX11_blends 62 = .ok (.iload 4, 2) := by decide +kernel
theorem dX11_blends_64 : decode cX11_blends 64 = .ok (.invokestatic 353, 3) := by decide +kernel
theorem dX11_blends_67 : decode cX11_blends 67 = .ok (.goto 18, 3) := by decide +kernel
theorem dX11_blends_70 : decode cX11_blends 70 = .ok (.iload_n 3, 1) := by decide +kernel
theorem dX11_blends_71 : decode cX11_blends 71 = .ok (.iconst 2, 1) := by decide +kernel
theorem dX11_blends_72 : decode cX11_blends 72 = .ok (.aload_n 0, 1) := by decide +kernel
theorem dX11_blends_73 : decode cX11_blends 73 = .ok (.getfield 74, 3) := by decide +kernel
theorem dX11_blends_76 : decode cX11_blends 76 = .ok (.iload_n 2, 1) := by decide +kernel
theorem dX11_blends_77 : decode cX11_blends 77 = .ok (.iaload, 1) := by decide +kernel
theorem dX11_blends_78 : decode cX11_blends 78 = .ok (.imul, 1) := by decide +kernel
theorem dX11_blends_79 : decode cX11_blends 79 = .ok (.iadd, 1) := by decide +kernel
theorem dX11_blends_80 : decode cX11_blends 80 = .ok (.iload 4, 2) := by decide +kernel
theorem dX11_blends_82 : decode cX11_blends 82 = .ok (.iadd, 1) := by decide +kernel
theorem dX11_blends_83 : decode cX11_blends 83 = .ok (.iconst 4, 1) := by decide +kernel
theorem dX11_blends_84 : decode cX11_blends 84 = .ok (.idiv, 1) := by decide +kernel
theorem dX11_blends_85 : decode cX11_blends 85 = .ok (.iastore, 1) := by decide +kernel
theorem dX11_blends_86 : decode cX11_blends 86 = .ok (.iinc 2 1, 3) := by decide +kernel
theorem dX11_blends_89 : decode cX11_blends 89 = .ok (.goto (-83), 3) := by decide +kernel
theorem dX11_blends_92 : decode cX11_blends 92 = .ok (.return_, 1) := by decide +kernel
theorem dX11_fell_0 : decode cX11_fell 0 = .ok (.iconst 0, 1) := by decide +kernel
theorem dX11_fell_1 : decode cX11_fell 1 = .ok (.istore_n 1, 1) := by decide +kernel
theorem dX11_fell_2 : decode cX11_fell 2 = .ok (.iconst 0, 1) := by decide +kernel
theorem dX11_fell_3 : decode cX11_fell 3 = .ok (.istore_n 2, 1) := by decide +kernel
theorem dX11_fell_4 : decode cX11_fell 4 = .ok (.iload_n 2, 1) := by decide +kernel
theorem dX11_fell_5 : decode cX11_fell 5 = .ok (.aload_n 0, 1) := by decide +kernel
theorem dX11_fell_6 : decode cX11_fell 6 = .ok (.invokevirtual 257, 3) := by decide +kernel
theorem dX11_fell_9 : decode cX11_fell 9 = .ok (.if_icmp .ge 32, 3) := by decide +kernel
theorem dX11_fell_12 : decode cX11_fell 12 = .ok (.iload_n 1, 1) := by decide +kernel
theorem dX11_fell_13 : decode cX11_fell 13 = .ok (.aload_n 0, 1) := by decide +kernel
theorem dX11_fell_14 : decode cX11_fell 14 = .ok (.getfield 32, 3) := by decide +kernel
theorem dX11_fell_17 : decode cX11_fell 17 = .ok (.iload_n 2, 1) := by decide +kernel
theorem dX11_fell_18 : decode cX11_fell 18 = .ok (.iaload, 1) := by decide +kernel
theorem dX11_fell_19 : decode cX11_fell 19 = .ok (.aload_n 0, 1) := by decide +kernel
theorem dX11_fell_20 : decode cX11_fell 20 = .ok (.getfield 74, 3) := by decide +kernel
theorem dX11_fell_23 : decode cX11_fell 23 = .ok (.iload_n 2, 1) := by decide +kernel
theorem dX11_fell_24 : decode cX11_fell 24 = .ok (.iaload, 1) := by decide +kernel
theorem dX11_fell_25 : decode cX11_fell 25 = .ok (.if_icmp .ge 7, 3) := by decide +kernel
theorem dX11_fell_28 : decode cX11_fell 28 = .ok (.iconst 1, 1) := by decide +kernel
theorem dX11_fell_29 : decode cX11_fell 29 = .ok (.goto 4, 3) := by decide +kernel
theorem dX11_fell_32 : decode cX11_fell 32 = .ok (.iconst 0, 1) := by decide +kernel
theorem dX11_fell_33 : decode cX11_fell 33 = .ok (.iadd, 1) := by decide +kernel
theorem dX11_fell_34 : decode cX11_fell 34 = .ok (.istore_n 1, 1) := by decide +kernel
theorem dX11_fell_35 : decode cX11_fell 35 = .ok (.iinc 2 1, 3) := by decide +kernel
theorem dX11_fell_38 : decode cX11_fell 38 = .ok (.goto (-34), 3) := by decide +kernel
theorem dX11_fell_41 : decode cX11_fell 41 = .ok (.iload_n 1, 1) := by decide +kernel
theorem dX11_fell_42 : decode cX11_fell 42 = .ok (.ireturn, 1) := by decide +kernel
theorem dX11_flattens_0 : decode cX11_flattens 0 = .ok (.aload_n 0, 1) := by decide +kernel
theorem dX11_flattens_1 : decode cX11_flattens 1 = .ok (.invokevirtual 357, 3) := by decide +kernel
theorem dX11_flattens_4 : decode cX11_flattens 4 = .ok (.aload_n 0, 1) := by decide +kernel
theorem dX11_flattens_5 : decode cX11_flattens 5 = .ok (.invokevirtual 350, 3) := by decide +kernel
theorem dX11_flattens_8 : decode cX11_flattens 8 = .ok (.aload_n 0, 1) := by decide +kernel
theorem dX11_flattens_9 : decode cX11_flattens 9 = .ok (.getfield 314, 3) := by decide +kernel
theorem dX11_flattens_12 : decode cX11_flattens 12 = .ok (.istore_n 1, 1) := by decide +kernel
theorem dX11_flattens_13 : decode cX11_flattens 13 = .ok (.iload_n 1, 1) := by decide +kernel
theorem dX11_flattens_14 : decode cX11_flattens 14 = .ok (.aload_n 0, 1) := by decide +kernel
theorem dX11_flattens_15 : decode cX11_flattens 15 = .ok (.getfield 281, 3) := by decide +kernel
theorem dX11_flattens_18 : decode cX11_flattens 18 = .ok (.if_icmp .ge 143, 3) := by decide +kernel
theorem dX11_flattens_21 : decode cX11_flattens 21 = .ok (.aload_n 0, 1) := by decide +kernel
theorem dX11_flattens_22 : decode cX11_flattens 22 = .ok (.getfield 53, 3) := by decide +kernel
theorem dX11_flattens_25 : decode cX11_flattens 25 = .ok (.aload_n 0, 1) := by decide +kernel
theorem dX11_flattens_26 : decode cX11_flattens 26 = .ok (.getfield 62, 3) := by decide +kernel
theorem dX11_flattens_29 : decode cX11_flattens 29 = .ok (.iload_n 1, 1) := by decide +kernel
theorem dX11_flattens_30 : decode cX11_flattens 30 = .ok (.iaload, 1) := by decide +kernel
theorem dX11_flattens_31 : decode cX11_flattens 31 = .ok (.iaload, 1) := by decide +kernel
theorem dX11_flattens_32 : decode cX11_flattens 32 = .ok (.istore_n 2, 1) := by decide +kernel
theorem dX11_flattens_33 : decode cX11_flattens 33 = .ok (.aload_n 0, 1) := by decide +kernel
theorem dX11_flattens_34 : decode cX11_flattens 34 = .ok (.iload_n 1, 1) := by decide +kernel
theorem dX11_flattens_35 : decode cX11_flattens 35 = .ok (.invokevirtual 320, 3) := by decide +kernel
theorem dX11_flattens_38 : decode cX11_flattens 38 = .ok (.istore_n 3, 1) := by decide +kernel
theorem dX11_flattens_39 : decode cX11_flattens 39 = .ok (.iload_n 3, 1) := by decide +kernel
theorem dX11_flattens_40 : decode cX11_flattens 40 = .ok (.istore 4, 2) := by decide +kernel
theorem dX11_flattens_42 : decode cX11_flattens 42 = .ok (.iload_n 3, 1) := by decide +kernel
theorem dX11_flattens_43 : decode cX11_flattens 43 = .ok (.istore 5, 2) := by decide +kernel
theorem dX11_flattens_45 : decode cX11_flattens 45 = .ok (.iload 4, 2) := by decide +kernel
theorem dX11_flattens_47 : decode cX11_flattens 47 = .ok (.ifCond .le 22, 3) := by decide +kernel
theorem dX11_flattens_50 : decode cX11_flattens 50 = .ok (.aload_n 0, 1) := by decide +kernel
theorem dX11_flattens_51 : decode cX11_flattens 51 = .ok (.getfield 74, 3) := by decide +kernel
theorem dX11_flattens_54 : decode cX11_flattens 54 = .ok (.iload 4, 2) := by decide +kernel
theorem dX11_flattens_56 : decode cX11_flattens 56 = .ok (.iconst 1, 1) := by decide +kernel
theorem dX11_flattens_57 : decode cX11_flattens 57 = .ok (.isub, 1) := by decide +kernel
theorem dX11_flattens_58 : decode cX11_flattens 58 = .ok (.iaload, 1) := by decide +kernel
theorem dX11_flattens_59 : decode cX11_flattens 59 = .ok (.iload_n 2, 1) := by decide +kernel
theorem dX11_flattens_60 : decode cX11_flattens 60 = .ok (.if_icmp .le 9, 3) := by decide +kernel
theorem dX11_flattens_63 : decode cX11_flattens 63 = .ok (.iinc 4 (-1), 3) := by decide +kernel
theorem dX11_flattens_66 : decode cX11_flattens 66 = .ok (.goto (-21), 3) := by decide +kernel
theorem dX11_flattens_69 : decode cX11_flattens 69 = .ok (.iload 5, 2) := by decide +kernel
theorem dX11_flattens_71 : decode cX11_flattens 71 = .ok (.aload_n 0, 1) := by decide +kernel
theorem dX11_flattens_72 : decode cX11_flattens 72 = .ok (.invokevirtual 257, 3) := by decide +kernel
theorem dX11_flattens_75 : decode cX11_flattens 75 = .ok (.iconst 1, 1) := by decide +kernel
theorem dX11_flattens_76 : decode cX11_flattens 76 = .ok (.isub, 1) := by decide +kernel
theorem dX11_flattens_77 : decode cX11_flattens 77 = .ok (.if_icmp .ge 22, 3) := by decide +kernel
theorem dX11_flattens_80 : decode cX11_flattens 80 = .ok (.aload_n 0, 1) := by decide +kernel
theorem dX11_flattens_81 : decode cX11_flattens 81 = .ok (.getfield 74, 3) := by decide +kernel
theorem dX11_flattens_84 : decode cX11_flattens 84 = .ok (.iload 5, 2) := by decide +kernel
theorem dX11_flattens_86 : decode cX11_flattens 86 = .ok (.iconst 1, 1) := by decide +kernel
theorem dX11_flattens_87 : decode cX11_flattens 87 = .ok (.iadd, 1) := by decide +kernel
theorem dX11_flattens_88 : decode cX11_flattens 88 = .ok (.iaload, 1) := by decide +kernel
theorem dX11_flattens_89 : decode cX11_flattens 89 = .ok (.iload_n 2, 1) := by decide +kernel
theorem dX11_flattens_90 : decode cX11_flattens 90 = .ok (.if_icmp .le 9, 3) := by decide +kernel
theorem dX11_flattens_93 : decode cX11_flattens 93 = .ok (.iinc 5 1, 3) := by decide +kernel
theorem dX11_flattens_96 : decode cX11_flattens 96 = .ok (.goto (-27), 3) := by decide +kernel
theorem dX11_flattens_99 : decode cX11_flattens 99 = .ok (.iload 4, 2) := by decide +kernel
theorem dX11_flattens_101 : decode cX11_flattens 101 = .ok (.istore 6, 2) := by decide +kernel
theorem dX11_flattens_103 : decode cX11_flattens 103 = .ok (.iload 6, 2) := by decide +kernel
theorem dX11_flattens_105 : decode cX11_flattens 105 = .ok (.iload 5, 2) := by decide +kernel
theorem dX11_flattens_107 : decode cX11_flattens 107 = .ok (.if_icmp .gt 48, 3) := by decide +kernel
theorem dX11_flattens_110 : decode cX11_flattens 110 = .ok (.aload_n 0, 1) := by decide +kernel
theorem dX11_flattens_111 : decode cX11_flattens 111 = .ok (.getfield 32, 3) := by decide +kernel
theorem dX11_flattens_114 : decode cX11_flattens 114 = .ok (.iload 6, 2) := by decide +kernel
theorem dX11_flattens_116 : decode cX11_flattens 116 = .ok (.aload_n 0, 1) := by decide +kernel
theorem dX11_flattens_117 : decode cX11_flattens 117 = .ok (.getfield 74, 3) := by decide +kernel
theorem dX11_flattens_120 : decode cX11_flattens 120 = .ok (.iload 6, 2) := by decide +kernel
theorem dX11_flattens_122 : decode cX11_flattens 122 = .ok (.iaload, 1) := by decide +kernel
theorem dX11_flattens_123 : decode cX11_flattens 123 = .ok (.iload_n 2, 1) := by decide +kernel
theorem dX11_flattens_124 : decode cX11_flattens 124 = .ok (.if_icmp .le 17, 3) := by decide +kernel
theorem dX11_flattens_127 : decode cX11_flattens 127 = .ok (.aload_n 0, 1) := by decide +kernel
theorem dX11_flattens_128 : decode cX11_flattens 128 = .ok (.getfield 32, 3) := by decide +kernel
theorem dX11_flattens_131 : decode cX11_flattens 131 = .ok (.iload 6, 2) := by decide +kernel
theorem dX11_flattens_133 : decode cX11_flattens 133 = .ok (.iaload, 1) := by decide +kernel
theorem dX11_flattens_134 : decode cX11_flattens 134 = .ok (.iload_n 2, 1) := by decide +kernel
theorem dX11_flattens_135 : decode cX11_flattens 135 = .ok (.invokestatic 284, 3) := by decide +kernel
theorem dX11_flattens_138 : decode cX11_flattens 138 = .ok (.goto 10, 3) := by decide +kernel
theorem dX11_flattens_141 : decode cX11_flattens 141 = .ok (.aload_n 0, 1) := by decide +kernel
theorem dX11_flattens_142 : decode cX11_flattens 142 = .ok (.getfield 32, 3) := by decide +kernel
theorem dX11_flattens_145 : decode cX11_flattens 145 = .ok (.iload 6, 2) := by decide +kernel
theorem dX11_flattens_147 : decode cX11_flattens 147 = .ok (.iaload, 1) := by decide +kernel
theorem dX11_flattens_148 : decode cX11_flattens 148 = .ok (.iastore, 1) := by decide +kernel
theorem dX11_flattens_149 : decode cX11_flattens 149 = .ok (.iinc 6 1, 3) := by decide +kernel
theorem dX11_flattens_152 : decode cX11_flattens 152 = .ok (.goto (-49), 3) := by decide +kernel
theorem dX11_flattens_155 : decode cX11_flattens 155 = .ok (.iinc 1 1, 3) := by decide +kernel
theorem dX11_flattens_158 : decode cX11_flattens 158 = .ok (.goto (-145), 3) := by decide +kernel
theorem dX11_flattens_161 : decode cX11_flattens 161 = .ok (.aload_n 0, 1) := by decide +kernel
theorem dX11_flattens_162 : decode cX11_flattens 162 = .ok (.invokevirtual 360, 3) := by decide +kernel
theorem dX11_flattens_165 : decode cX11_flattens 165 = .ok (.ireturn, 1) := by decide +kernel
theorem dX11_clips_0 : decode cX11_clips 0 = .ok (.aload_n 0, 1) := by decide +kernel
theorem dX11_clips_1 : decode cX11_clips 1 = .ok (.invokevirtual 350, 3) := by decide +kernel
theorem dX11_clips_4 : decode cX11_clips 4 = .ok (.iconst 0, 1) := by decide +kernel
theorem dX11_clips_5 : decode cX11_clips 5 = .ok (.istore_n 2, 1) := by decide +kernel
theorem dX11_clips_6 : decode cX11_clips 6 = .ok (.iload_n 2, 1) := by decide +kernel
theorem dX11_clips_7 : decode cX11_clips 7 = .ok (.aload_n 0, 1) := by decide +kernel
theorem dX11_clips_8 : decode cX11_clips 8 = .ok (.invokevirtual 257, 3) := by decide +kernel
theorem dX11_clips_11 : decode cX11_clips 11 = .ok (.if_icmp .ge 25, 3) := by decide +kernel
theorem dX11_clips_14 : decode cX11_clips 14 = .ok (.aload_n 0, 1) := by decide +kernel
theorem dX11_clips_15 : decode cX11_clips 15 = .ok (.getfield 32, 3) := by decide +kernel
theorem dX11_clips_18 : decode cX11_clips 18 = .ok (.iload_n 2, 1) := by decide +kernel
theorem dX11_clips_19 : decode cX11_clips 19 = .ok (.aload_n 0, 1) := by decide +kernel
theorem dX11_clips_20 : decode cX11_clips 20 = .ok (.getfield 32, 3) := by decide +kernel
theorem dX11_clips_23 : decode cX11_clips 23 = .ok (.iload_n 2, 1) := by decide +kernel
theorem dX11_clips_24 : decode cX11_clips 24 = .ok (.iaload, 1) := by decide +kernel
theorem dX11_clips_25 : decode cX11_clips 25 = .ok (.iload_n 1, 1) := by decide +kernel
theorem dX11_clips_26 : decode cX11_clips 26 = .ok (.invokestatic 284, 3) := by decide +kernel
theorem dX11_clips_29 : decode cX11_clips 29 = .ok (.iastore, 1) := by decide +kernel
theorem dX11_clips_30 : decode cX11_clips 30 = .ok (.iinc 2 1, 3) := by decide +kernel
theorem dX11_clips_33 : decode cX11_clips 33 = .ok (.goto (-27), 3) := by decide +kernel
theorem dX11_clips_36 : decode cX11_clips 36 = .ok (.aload_n 0, 1) := by decide +kernel
theorem dX11_clips_37 : decode cX11_clips 37 = .ok (.invokevirtual 360, 3) := by decide +kernel
theorem dX11_clips_40 : decode cX11_clips 40 = .ok (.ireturn, 1) := by decide +kernel
theorem dX11_turns_0 : decode cX11_turns 0 = .ok (.aload_n 0, 1) := by decide +kernel
theorem dX11_turns_1 : decode cX11_turns 1 = .ok (.invokevirtual 350, 3) := by decide +kernel
theorem dX11_turns_4 : decode cX11_turns 4 = .ok (.iconst 0, 1) := by decide +kernel
theorem dX11_turns_5 : decode cX11_turns 5 = .ok (.istore_n 1, 1) := by decide +kernel
theorem dX11_turns_6 : decode cX11_turns 6 = .ok (.iload_n 1, 1) := by decide +kernel
theorem dX11_turns_7 : decode cX11_turns 7 = .ok (.aload_n 0, 1) := by decide +kernel
theorem dX11_turns_8 : decode cX11_turns 8 = .ok (.invokevirtual 257, 3) := by decide +kernel
theorem dX11_turns_11 : decode cX11_turns 11 = .ok (.if_icmp .ge 28, 3) := by decide +kernel
theorem dX11_turns_14 : decode cX11_turns 14 = .ok (.aload_n 0, 1) := by decide +kernel
theorem dX11_turns_15 : decode cX11_turns 15 = .ok (.getfield 32, 3) := by decide +kernel
theorem dX11_turns_18 : decode cX11_turns 18 = .ok (.iload_n 1, 1) := by decide +kernel
theorem dX11_turns_19 : decode cX11_turns 19 = .ok (.aload_n 0, 1) := by decide +kernel
theorem dX11_turns_20 : decode cX11_turns 20 = .ok (.getfield 74, 3) := by decide +kernel
theorem dX11_turns_23 : decode cX11_turns 23 = .ok (.aload_n 0, 1) := by decide +kernel
theorem dX11_turns_24 : decode cX11_turns 24 = .ok (.invokevirtual 257, 3) := by decide +kernel
theorem dX11_turns_27 : decode cX11_turns 27 = .ok (.iconst 1, 1) := by decide +kernel
theorem dX11_turns_28 : decode cX11_turns 28 = .ok (.isub, 1) := by decide +kernel
theorem dX11_turns_29 : decode cX11_turns 29 = .ok (.iload_n 1, 1) := by decide +kernel
theorem dX11_turns_30 : decode cX11_turns 30 = .ok (.isub, 1) := by decide +kernel
theorem dX11_turns_31 : decode cX11_turns 31 = .ok (.iaload, 1) := by decide +kernel
theorem dX11_turns_32 : decode cX11_turns 32 = .ok (.iastore, 1) := by decide +kernel
theorem dX11_turns_33 : decode cX11_turns 33 = .ok (.iinc 1 1, 3) := by decide +kernel
theorem dX11_turns_36 : decode cX11_turns 36 = .ok (.goto (-30), 3) := by decide +kernel
theorem dX11_turns_39 : decode cX11_turns 39 = .ok (.aload_n 0, 1) := by decide +kernel
theorem dX11_turns_40 : decode cX11_turns 40 = .ok (.getfield 32, 3) := by decide +kernel
theorem dX11_turns_43 : decode cX11_turns 43 = .ok (.iconst 0, 1) := by decide +kernel
theorem dX11_turns_44 : decode cX11_turns 44 = .ok (.iaload, 1) := by decide +kernel
theorem dX11_turns_45 : decode cX11_turns 45 = .ok (.ireturn, 1) := by decide +kernel
theorem dX11_lifts_0 : decode cX11_lifts 0 = .ok (.iconst 0, 1) := by decide +kernel
theorem dX11_lifts_1 : decode cX11_lifts 1 = .ok (.istore_n 2, 1) := by decide +kernel
theorem dX11_lifts_2 : decode cX11_lifts 2 = .ok (.iload_n 2, 1) := by decide +kernel
theorem dX11_lifts_3 : decode cX11_lifts 3 = .ok (.aload_n 0, 1) := by decide +kernel
theorem dX11_lifts_4 : decode cX11_lifts 4 = .ok (.invokevirtual 257, 3) := by decide +kernel
theorem dX11_lifts_7 : decode cX11_lifts 7 = .ok (.if_icmp .ge 33, 3) := by decide +kernel
theorem dX11_lifts_10 : decode cX11_lifts 10 = .ok (.aload_n 0, 1) := by decide +kernel
theorem dX11_lifts_11 : decode cX11_lifts 11 = .ok (.getfield 32, 3) := by decide +kernel
theorem dX11_lifts_14 : decode cX11_lifts 14 = .ok (.iload_n 2, 1) := by decide +kernel
theorem dX11_lifts_15 : decode cX11_lifts 15 = .ok (.iconst 0, 1) := by decide +kernel
theorem dX11_lifts_16 : decode cX11_lifts 16 = .ok (.sipush 999, 3) := by decide +kernel
theorem dX11_lifts_19 : decode cX11_lifts 19 = .ok (.aload_n 0, 1) := by decide +kernel
theorem dX11_lifts_20 : decode cX11_lifts 20 = .ok (.getfield 32, 3) := by decide +kernel
theorem dX11_lifts_23 : decode cX11_lifts 23 = .ok (.iload_n 2, 1) := by decide +kernel
theorem dX11_lifts_24 : decode cX11_lifts 24 = .ok (.iaload, 1) := by decide +kernel
theorem dX11_lifts_25 : decode cX11_lifts 25 = .ok (.iload_n 1, 1) := by decide +kernel
theorem dX11_lifts_26 : decode cX11_lifts 26 = .ok (.iadd, 1) := by decide +kernel
theorem dX11_lifts_27 : decode cX11_lifts 27 = .ok (.invokestatic 284, 3) := by decide +kernel
theorem dX11_lifts_30 : decode cX11_lifts 30 = .ok (.invokestatic 289, 3) := by decide +kernel
theorem dX11_lifts_33 : decode cX11_lifts 33 = .ok (.iastore, 1) := by decide +kernel
theorem dX11_lifts_34 : decode cX11_lifts 34 = .ok (.iinc 2 1, 3) := by decide +kernel
theorem dX11_lifts_37 : decode cX11_lifts 37 = .ok (.goto (-35), 3) := by decide +kernel
theorem dX11_lifts_40 : decode cX11_lifts 40 = .ok (.aload_n 0, 1) := by decide +kernel
theorem dX11_lifts_41 : decode cX11_lifts 41 = .ok (.invokevirtual 305, 3) := by decide +kernel
theorem dX11_lifts_44 : decode cX11_lifts 44 = .ok (.ireturn, 1) := by decide +kernel
theorem dX11_greatest_0 : decode cX11_greatest 0 = .ok (.iconst 0, 1) := by decide +kernel
theorem dX11_greatest_1 : decode cX11_greatest 1 = .ok (.istore_n 1, 1) := by decide +kernel
theorem dX11_greatest_2 : decode cX11_greatest 2 = .ok (.iconst 0, 1) := by decide +kernel
theorem dX11_greatest_3 : decode cX11_greatest 3 = .ok (.istore_n 2, 1) := by decide +kernel
theorem dX11_greatest_4 : decode cX11_greatest 4 = .ok (.iload_n 2, 1) := by decide +kernel
theorem dX11_greatest_5 : decode cX11_greatest 5 = .ok (.aload_n 0, 1) := by decide +kernel
theorem dX11_greatest_6 : decode cX11_greatest 6 = .ok (.invokevirtual 257, 3) := by decide +kernel
theorem dX11_greatest_9 : decode cX11_greatest 9 = .ok (.if_icmp .ge 20, 3) := by decide +kernel
theorem dX11_greatest_12 : decode cX11_greatest 12 = .ok (.iload_n 1, 1) := by decide +kernel
theorem dX11_greatest_13 : decode cX11_greatest 13 = .ok (.aload_n 0, 1) := by decide +kernel
theorem dX11_greatest_14 : decode cX11_greatest 14 = .ok (.getfield 32, 3) := by decide +kernel
theorem dX11_greatest_17 : decode cX11_greatest 17 = .ok (.iload_n 2, 1) := by decide +kernel
theorem dX11_greatest_18 : decode cX11_greatest 18 = .ok (.iaload, 1) := by decide +kernel
theorem dX11_greatest_19 : decode cX11_greatest 19 = .ok (.invokestatic 289, 3) := by decide +kernel
theorem dX11_greatest_22 : decode cX11_greatest 22 = .ok (.istore_n 1, 1) := by decide +kernel
theorem dX11_greatest_23 : decode cX11_greatest 23 = .ok (.iinc 2 1, 3) := by decide +kernel
theorem dX11_greatest_26 : decode cX11_greatest 26 = .ok (.goto (-22), 3) := by decide +kernel
theorem dX11_greatest_29 : decode cX11_greatest 29 = .ok (.iload_n 1, 1) := by decide +kernel
theorem dX11_greatest_30 : decode cX11_greatest 30 = .ok (.ireturn, 1) := by decide +kernel
theorem dX11_scales_0 : decode cX11_scales 0 = .ok (.iconst 0, 1) := by decide +kernel
theorem dX11_scales_1 : decode cX11_scales 1 = .ok (.istore_n 3, 1) := by decide +kernel
theorem dX11_scales_2 : decode cX11_scales 2 = .ok (.iload_n 3, 1) := by decide +kernel
theorem dX11_scales_3 : decode cX11_scales 3 = .ok (.aload_n 0, 1) := by decide +kernel
theorem dX11_scales_4 : decode cX11_scales 4 = .ok (.invokevirtual 257, 3) := by decide +kernel
theorem dX11_scales_7 : decode cX11_scales 7 = .ok (.if_icmp .ge 31, 3) := by decide +kernel
theorem dX11_scales_10 : decode cX11_scales 10 = .ok (.aload_n 0, 1) := by decide +kernel
theorem dX11_scales_11 : decode cX11_scales 11 = .ok (.getfield 32, 3) := by decide +kernel
theorem dX11_scales_14 : decode cX11_scales 14 = .ok (.iload_n 3, 1) := by decide +kernel
theorem dX11_scales_15 : decode cX11_scales 15 = .ok (.sipush 999, 3) := by decide +kernel
theorem dX11_scales_18 : decode cX11_scales 18 = .ok (.aload_n 0, 1) := by decide +kernel
theorem dX11_scales_19 : decode cX11_scales 19 = .ok (.getfield 32, 3) := by decide +kernel
theorem dX11_scales_22 : decode cX11_scales 22 = .ok (.iload_n 3, 1) := by decide +kernel
theorem dX11_scales_23 : decode cX11_scales 23 = .ok (.iaload, 1) := by decide +kernel
theorem dX11_scales_24 : decode cX11_scales 24 = .ok (.iload_n 1, 1) := by decide +kernel
theorem dX11_scales_25 : decode cX11_scales 25 = .ok (.imul, 1) := by decide +kernel
theorem dX11_scales_26 : decode cX11_scales 26 = .ok (.iload_n 2, 1) := by decide +kernel
theorem dX11_scales_27 : decode cX11_scales 27 = .ok (.idiv, 1) := by decide +kernel
theorem dX11_scales_28 : decode cX11_scales 28 = .ok (.invokestatic 284, 3) := by decide +kernel
theorem dX11_scales_31 : decode cX11_scales 31 = .ok (.iastore, 1) := by decide +kernel
theorem dX11_scales_32 : decode cX11_scales 32 = .ok (.iinc 3 1, 3) := by decide +kernel
theorem dX11_scales_35 : decode cX11_scales 35 = .ok (.goto (-33), 3) := by decide +kernel
theorem dX11_scales_38 : decode cX11_scales 38 = .ok (.aload_n 0, 1) := by decide +kernel
theorem dX11_scales_39 : decode cX11_scales 39 = .ok (.invokevirtual 363, 3) := by decide +kernel
theorem dX11_scales_42 : decode cX11_scales 42 = .ok (.ireturn, 1) := by decide +kernel
theorem dX11_sets_0 : decode cX11_sets 0 = .ok (.aload_n 0, 1) := by decide +kernel
theorem dX11_sets_1 : decode cX11_sets 1 = .ok (.getfield 32, 3) := by decide +kernel
theorem dX11_sets_4 : decode cX11_sets 4 = .ok (.iload_n 1, 1) := by decide +kernel
theorem dX11_sets_5 : decode cX11_sets 5 = .ok (.iaload, 1) := by decide +kernel
theorem dX11_sets_6 : decode cX11_sets 6 = .ok (.istore_n 3, 1) := by decide +kernel
theorem dX11_sets_7 : decode cX11_sets 7 = .ok (.aload_n 0, 1) := by decide +kernel
theorem dX11_sets_8 : decode cX11_sets 8 = .ok (.getfield 32, 3) := by decide +kernel
theorem dX11_sets_11 : decode cX11_sets 11 = .ok (.iload_n 1, 1) := by decide +kernel
theorem dX11_sets_12 : decode cX11_sets 12 = .ok (.iload_n 2, 1) := by decide +kernel
theorem dX11_sets_13 : decode cX11_sets 13 = .ok (.iastore, 1) := by decide +kernel
theorem dX11_sets_14 : decode cX11_sets 14 = .ok (.iload_n 3, 1) := by decide +kernel
theorem dX11_sets_15 : decode cX11_sets 15 = .ok (.ireturn, 1) := by decide +kernel
theorem dX11_cuts_0 : decode cX11_cuts 0 = .ok (.aload_n 0, 1) := by decide +kernel
theorem dX11_cuts_1 : decode cX11_cuts 1 = .ok (.invokevirtual 350, 3) := by decide +kernel
theorem dX11_cuts_4 : decode cX11_cuts 4 = .ok (.iconst 0, 1) := by decide +kernel
theorem dX11_cuts_5 : decode cX11_cuts 5 = .ok (.istore_n 3, 1) := by decide +kernel
theorem dX11_cuts_6 : decode cX11_cuts 6 = .ok (.iload_n 3, 1) := by decide +kernel
theorem dX11_cuts_7 : decode cX11_cuts 7 = .ok (.bipush 48, 2) := by decide +kernel
theorem dX11_cuts_9 : decode cX11_cuts 9 = .ok (.if_icmp .ge 32, 3) := by decide +kernel
theorem dX11_cuts_12 : decode cX11_cuts 12 = .ok (.aload_n 0, 1) := by decide +kernel
theorem dX11_cuts_13 : decode cX11_cuts 13 = .ok (.getfield 32, 3) := by decide +kernel
theorem dX11_cuts_16 : decode cX11_cuts 16 = .ok (.iload_n 3, 1) := by decide +kernel
theorem dX11_cuts_17 : decode cX11_cuts 17 = .ok (.iload_n 3, 1) := by decide +kernel
theorem dX11_cuts_18 : decode cX11_cuts 18 = .ok (.iload_n 2, 1) := by decide +kernel
theorem dX11_cuts_19 : decode cX11_cuts 19 = .ok (.if_icmp .ge 14, 3) := by decide +kernel
theorem dX11_cuts_22 : decode cX11_cuts 22 = .ok (.aload_n 0, 1) := by decide +kernel
theorem dX11_cuts_23 : decode cX11_cuts 23 = .ok (.getfield 74, 3) := by decide +kernel
theorem dX11_cuts_26 : decode cX11_cuts 26 = .ok (.iload_n 1, 1) := by decide +kernel
theorem dX11_cuts_27 : decode cX11_cuts 27 = .ok (.iload_n 3, 1) := by decide +kernel
theorem dX11_cuts_28 : decode cX11_cuts 28 = .ok (.iadd, 1) := by decide +kernel
theorem dX11_cuts_29 : decode cX11_cuts 29 = .ok (.iaload, 1) := by decide +kernel
theorem dX11_cuts_30 : decode cX11_cuts 30 = .ok (.goto 4, 3) := by decide +kernel
theorem dX11_cuts_33 : decode cX11_cuts 33 = .ok (.iconst 0, 1) := by decide +kernel
theorem dX11_cuts_34 : decode cX11_cuts 34 = .ok (.iastore, 1) := by decide +kernel
theorem dX11_cuts_35 : decode cX11_cuts 35 = .ok (.iinc 3 1, 3) := by decide +kernel
theorem dX11_cuts_38 : decode cX11_cuts 38 = .ok (.goto (-32), 3) := by decide +kernel
theorem dX11_cuts_41 : decode cX11_cuts 41 = .ok (.aload_n 0, 1) := by decide +kernel
theorem dX11_cuts_42 : decode cX11_cuts 42 = .ok (.invokevirtual 257, 3) := by decide +kernel
theorem dX11_cuts_45 : decode cX11_cuts 45 = .ok (.iload_n 2, 1) := by decide +kernel
theorem dX11_cuts_46 : decode cX11_cuts 46 = .ok (.isub, 1) := by decide +kernel
theorem dX11_cuts_47 : decode cX11_cuts 47 = .ok (.istore_n 3, 1) := by decide +kernel
theorem dX11_cuts_48 : decode cX11_cuts 48 = .ok (.aload_n 0, 1) := by decide +kernel
theorem dX11_cuts_49 : decode cX11_cuts 49 = .ok (.getfield 32, 3) := by decide +kernel
theorem dX11_cuts_52 : decode cX11_cuts 52 = .ok (.bipush 48, 2) := by decide +kernel
theorem dX11_cuts_54 : decode cX11_cuts 54 = .ok (.iload_n 2, 1) := by decide +kernel
theorem dX11_cuts_55 : decode cX11_cuts 55 = .ok (.iastore, 1) := by decide +kernel
theorem dX11_cuts_56 : decode cX11_cuts 56 = .ok (.iload_n 3, 1) := by decide +kernel
theorem dX11_cuts_57 : decode cX11_cuts 57 = .ok (.ireturn, 1) := by decide +kernel
theorem dX11_keptNow_0 : decode cX11_keptNow 0 = .ok (.aload_n 0, 1) := by decide +kernel
theorem dX11_keptNow_1 : decode cX11_keptNow 1 = .ok (.invokevirtual 357, 3) := by decide +kernel
theorem dX11_keptNow_4 : decode cX11_keptNow 4 = .ok (.aload_n 0, 1) := by decide +kernel
theorem dX11_keptNow_5 : decode cX11_keptNow 5 = .ok (.getfield 314, 3) := by decide +kernel
theorem dX11_keptNow_8 : decode cX11_keptNow 8 = .ok (.ireturn, 1) := by decide +kernel
theorem dX11_whyNot_0 : decode cX11_whyNot 0 = .ok (.aload_n 0, 1) := by decide +kernel
theorem dX11_whyNot_1 : decode cX11_whyNot 1 = .ok (.getfield 254, 3) := by decide +kernel
theorem dX11_whyNot_4 : decode cX11_whyNot 4 = .ok (.ifCond .ne 5, 3) := by decide +kernel
theorem dX11_whyNot_7 : decode cX11_whyNot 7 = .ok (.iconst 0, 1) := by decide +kernel
theorem dX11_whyNot_8 : decode cX11_whyNot 8 = .ok (.ireturn, 1) := by decide +kernel
theorem dX11_whyNot_9 : decode cX11_whyNot 9 = .ok (.iload_n 1, 1) := by decide +kernel
theorem dX11_whyNot_10 : decode cX11_whyNot 10 = .ok (.tableswitch 161 4 9 #[38, 55, 74, 100, 38, 129], 38) := by decide +kernel
theorem dX11_whyNot_48 : decode cX11_whyNot 48 = .ok (.iload_n 2, 1) := by decide +kernel
theorem dX11_whyNot_49 : decode cX11_whyNot 49 = .ok (.iconst 0, 1) := by decide +kernel
theorem dX11_whyNot_50 : decode cX11_whyNot 50 = .ok (.sipush 999, 3) := by decide +kernel
theorem dX11_whyNot_53 : decode cX11_whyNot 53 = .ok (.invokestatic 103, 3) := by decide +kernel
theorem dX11_whyNot_56 : decode cX11_whyNot 56 = .ok (.ifCond .eq 7, 3) := by decide +kernel
theorem dX11_whyNot_59 : decode cX11_whyNot 59 = .ok (.iconst (-1), 1) := by decide +kernel
theorem dX11_whyNot_60 : decode cX11_whyNot 60 = .ok (.goto 4, 3) := by decide +kernel
theorem dX11_whyNot_63 : decode cX11_whyNot 63 = .ok (.iconst 1, 1) := by decide +kernel
theorem dX11_whyNot_64 : decode cX11_whyNot 64 = .ok (.ireturn, 1) := by decide +kernel
theorem dX11_whyNot_65 : decode cX11_whyNot 65 = .ok (.iload_n 2, 1) := by decide +kernel
theorem dX11_whyNot_66 : decode cX11_whyNot 66 = .ok (.sipush (-999), 3) := by decide +kernel
theorem dX11_whyNot_69 : decode cX11_whyNot 69 = .ok (.sipush 999, 3) := by decide +kernel
theorem dX11_whyNot_72 : decode cX11_whyNot 72 = .ok (.invokestatic 103, 3) := by decide +kernel
theorem dX11_whyNot_75 : decode cX11_whyNot 75 = .ok (.ifCond .eq 7, 3) := by decide +kernel
theorem dX11_whyNot_78 : decode cX11_whyNot 78 = .ok (.iconst (-1), 1) := by decide +kernel
theorem dX11_whyNot_79 : decode cX11_whyNot 79 = .ok (.goto 4, 3) := by decide +kernel
theorem dX11_whyNot_82 : decode cX11_whyNot 82 = .ok (.iconst 1, 1) := by decide +kernel
theorem dX11_whyNot_83 : decode cX11_whyNot 83 = .ok (.ireturn, 1) := by decide +kernel
theorem dX11_whyNot_84 : decode cX11_whyNot 84 = .ok (.iload_n 2, 1) := by decide +kernel
theorem dX11_whyNot_85 : decode cX11_whyNot 85 = .ok (.iconst 0, 1) := by decide +kernel
theorem dX11_whyNot_86 : decode cX11_whyNot 86 = .ok (.bipush 99, 2) := by decide +kernel
theorem dX11_whyNot_88 : decode cX11_whyNot 88 = .ok (.invokestatic 103, 3) := by decide +kernel
theorem dX11_whyNot_91 : decode cX11_whyNot 91 = .ok (.ifCond .eq 17, 3) := by decide +kernel
theorem dX11_whyNot_94 : decode cX11_whyNot 94 = .ok (.iload_n 3, 1) := by decide +kernel
theorem dX11_whyNot_95 : decode cX11_whyNot 95 = .ok (.iconst 1, 1) := by decide +kernel
theorem dX11_whyNot_96 : decode cX11_whyNot 96 = .ok (.bipush 99, 2) := by decide +kernel
theorem dX11_whyNot_98 : decode cX11_whyNot 98 = .ok (.invokestatic 103, 3) := by decide +kernel
theorem dX11_whyNot_101 : decode cX11_whyNot 101 = .ok (.ifCond .eq 7, 3) := by decide +kernel
theorem dX11_whyNot_104 : decode cX11_whyNot 104 = .ok (.iconst (-1), 1) := by decide +kernel
theorem dX11_whyNot_105 : decode cX11_whyNot 105 = .ok (.goto 4, 3) := by decide +kernel
theorem dX11_whyNot_108 : decode cX11_whyNot 108 = .ok (.iconst 1, 1) := by decide +kernel
theorem dX11_whyNot_109 : decode cX11_whyNot 109 = .ok (.ireturn, 1) := by decide +kernel
theorem dX11_whyNot_110 : decode cX11_whyNot 110 = .ok (.aload_n 0, 1) := by decide +kernel
theorem dX11_whyNot_111 : decode cX11_whyNot 111 = .ok (.iload_n 2, 1) := by decide +kernel
theorem dX11_whyNot_112 : decode cX11_whyNot 112 = .ok (.invokevirtual 366, 3) := by decide +kernel
theorem dX11_whyNot_115 : decode cX11_whyNot 115 = .ok (.ifCond .ne 7, 3) := by decide +kernel
theorem dX11_whyNot_118 : decode cX11_whyNot 118 = .ok (.iconst 0, 1) := by decide +kernel
theorem dX11_whyNot_119 : decode cX11_whyNot 119 = .ok (.goto 19, 3) := by decide +kernel
theorem dX11_whyNot_122 : decode cX11_whyNot 122 = .ok (.iload_n 3, 1) := by decide +kernel
theorem dX11_whyNot_123 : decode cX11_whyNot 123 = .ok (.iconst 0, 1) := by decide +kernel
theorem dX11_whyNot_124 : decode cX11_whyNot 124 = .ok (.sipush 999, 3) := by decide +kernel
theorem dX11_whyNot_127 : decode cX11_whyNot 127 = .ok (.invokestatic 103, 3) := by decide +kernel
theorem dX11_whyNot_130 : decode cX11_whyNot 130 = .ok (.ifCond .eq 7, 3) := by decide +kernel
theorem dX11_whyNot_133 : decode cX11_whyNot 133 = .ok (.iconst (-1), 1) := by decide +kernel
theorem dX11_whyNot_134 : decode cX11_whyNot 134 = .ok (.goto 4, 3) := by decide +kernel
theorem dX11_whyNot_137 : decode cX11_whyNot 137 = .ok (.iconst 1, 1) := by decide +kernel
theorem dX11_whyNot_138 : decode cX11_whyNot 138 = .ok (.ireturn, 1) := by decide +kernel
theorem dX11_whyNot_139 : decode cX11_whyNot 139 = .ok (.aload_n 0, 1) := by decide +kernel
theorem dX11_whyNot_140 : decode cX11_whyNot 140 = .ok (.iload_n 2, 1) := by decide +kernel
theorem dX11_whyNot_141 : decode cX11_whyNot 141 = .ok (.invokevirtual 366, 3) := by decide +kernel
theorem dX11_whyNot_144 : decode cX11_whyNot 144 = .ok (.ifCond .ne 7, 3) := by decide +kernel
theorem dX11_whyNot_147 : decode cX11_whyNot 147 = .ok (.iconst 0, 1) := by decide +kernel
theorem dX11_whyNot_148 : decode cX11_whyNot 148 = .ok (.goto 22, 3) := by decide +kernel
theorem dX11_whyNot_151 : decode cX11_whyNot 151 = .ok (.iload_n 3, 1) := by decide +kernel
theorem dX11_whyNot_152 : decode cX11_whyNot 152 = .ok (.iconst 1, 1) := by decide +kernel
theorem dX11_whyNot_153 : decode cX11_whyNot 153 = .ok (.aload_n 0, 1) := by decide +kernel
theorem dX11_whyNot_154 : decode cX11_whyNot 154 = .ok (.invokevirtual 257, 3) := by decide +kernel
theorem dX11_whyNot_157 : decode cX11_whyNot 157 = .ok (.iload_n 2, 1) := by decide +kernel
theorem dX11_whyNot_158 : decode cX11_whyNot 158 = .ok (.isub, 1) := by decide +kernel
theorem dX11_whyNot_159 : decode cX11_whyNot 159 = .ok (.invokestatic 103, 3) := by decide +kernel
theorem dX11_whyNot_162 : decode cX11_whyNot 162 = .ok (.ifCond .eq 7, 3) := by decide +kernel
theorem dX11_whyNot_165 : decode cX11_whyNot 165 = .ok (.iconst (-1), 1) := by decide +kernel
theorem dX11_whyNot_166 : decode cX11_whyNot 166 = .ok (.goto 4, 3) := by decide +kernel
theorem dX11_whyNot_169 : decode cX11_whyNot 169 = .ok (.iconst 1, 1) := by decide +kernel
theorem dX11_whyNot_170 : decode cX11_whyNot 170 = .ok (.ireturn, 1) := by decide +kernel
theorem dX11_whyNot_171 : decode cX11_whyNot 171 = .ok (.iconst (-1), 1) := by decide +kernel
theorem dX11_whyNot_172 : decode cX11_whyNot 172 = .ok (.ireturn, 1) := by decide +kernel
theorem dX11_doNow_0 : decode cX11_doNow 0 = .ok (.iconst 0, 1) := by decide +kernel
theorem dX11_doNow_1 : decode cX11_doNow 1 = .ok (.istore 4, 2) := by decide +kernel
theorem dX11_doNow_3 : decode cX11_doNow 3 = .ok (.iload_n 1, 1) := by decide +kernel
theorem dX11_doNow_4 : decode cX11_doNow 4 = .ok (.tableswitch 128 0 8 #[52, 62, 72, 77, 82, 88, 94, 101, 108], 52) := by decide +kernel
theorem dX11_doNow_56 : decode cX11_doNow 56 = .ok (.aload_n 0, 1) := by decide +kernel
theorem dX11_doNow_57 : decode cX11_doNow 57 = .ok (.iconst 0, 1) := by decide +kernel
theorem dX11_doNow_58 : decode cX11_doNow 58 = .ok (.invokevirtual 369, 3) := by decide +kernel
theorem dX11_doNow_61 : decode cX11_doNow 61 = .ok (.aload_n 0, 1) := by decide +kernel
theorem dX11_doNow_62 : decode cX11_doNow 62 = .ok (.invokevirtual 373, 3) := by decide +kernel
theorem dX11_doNow_65 : decode cX11_doNow 65 = .ok (.ireturn, 1) := by decide +kernel
theorem dX11_doNow_66 : decode cX11_doNow 66 = .ok (.aload_n 0, 1) := by decide +kernel
theorem dX11_doNow_67 : decode cX11_doNow 67 = .ok (.iconst 1, 1) := by decide +kernel
theorem dX11_doNow_68 : decode cX11_doNow 68 = .ok (.invokevirtual 369, 3) := by decide +kernel
theorem dX11_doNow_71 : decode cX11_doNow 71 = .ok (.aload_n 0, 1) := by decide +kernel
theorem dX11_doNow_72 : decode cX11_doNow 72 = .ok (.invokevirtual 373, 3) := by decide +kernel
theorem dX11_doNow_75 : decode cX11_doNow 75 = .ok (.ireturn, 1) := by decide +kernel
theorem dX11_doNow_76 : decode cX11_doNow 76 = .ok (.aload_n 0, 1) := by decide +kernel
theorem dX11_doNow_77 : decode cX11_doNow 77 = .ok (.invokevirtual 376, 3) := by decide +kernel
theorem dX11_doNow_80 : decode cX11_doNow 80 = .ok (.ireturn, 1) := by decide +kernel
theorem dX11_doNow_81 : decode cX11_doNow 81 = .ok (.aload_n 0, 1) := by decide +kernel
theorem dX11_doNow_82 : decode cX11_doNow 82 = .ok (.invokevirtual 379, 3) := by decide +kernel
theorem dX11_doNow_85 : decode cX11_doNow 85 = .ok (.ireturn, 1) := by decide +kernel
theorem dX11_doNow_86 : decode cX11_doNow 86 = .ok (.aload_n 0, 1) := by decide +kernel
theorem dX11_doNow_87 : decode cX11_doNow 87 = .ok (.iload_n 2, 1) := by decide +kernel
theorem dX11_doNow_88 : decode cX11_doNow 88 = .ok (.invokevirtual 382, 3) := by decide +kernel
theorem dX11_doNow_91 : decode cX11_doNow 91 = .ok (.ireturn, 1) := by decide +kernel
theorem dX11_doNow_92 : decode cX11_doNow 92 = .ok (.aload_n 0, 1) := by decide +kernel
theorem dX11_doNow_93 : decode cX11_doNow 93 = .ok (.iload_n 2, 1) := by decide +kernel
theorem dX11_doNow_94 : decode cX11_doNow 94 = .ok (.invokevirtual 385, 3) := by decide +kernel
theorem dX11_doNow_97 : decode cX11_doNow 97 = .ok (.ireturn, 1) := by decide +kernel
theorem dX11_doNow_98 : decode cX11_doNow 98 = .ok (.aload_n 0, 1) := by decide +kernel
theorem dX11_doNow_99 : decode cX11_doNow 99 = .ok (.iload_n 2, 1) := by decide +kernel
theorem dX11_doNow_100 : decode cX11_doNow 100 = .ok (.iload_n 3, 1) := by decide +kernel
theorem dX11_doNow_101 : decode cX11_doNow 101 = .ok (.invokevirtual 388, 3) := by decide +kernel
theorem dX11_doNow_104 : decode cX11_doNow 104 = .ok (.ireturn, 1) := by decide +kernel
theorem dX11_doNow_105 : decode cX11_doNow 105 = .ok (.aload_n 0, 1) := by decide +kernel
theorem dX11_doNow_106 : decode cX11_doNow 106 = .ok (.iload_n 2, 1) := by decide +kernel
theorem dX11_doNow_107 : decode cX11_doNow 107 = .ok (.iload_n 3, 1) := by decide +kernel
theorem dX11_doNow_108 : decode cX11_doNow 108 = .ok (.invokevirtual 391, 3) := by decide +kernel
theorem dX11_doNow_111 : decode cX11_doNow 111 = .ok (.ireturn, 1) := by decide +kernel
theorem dX11_doNow_112 : decode cX11_doNow 112 = .ok (.aload_n 0, 1) := by decide +kernel
theorem dX11_doNow_113 : decode cX11_doNow 113 = .ok (.getfield 32, 3) := by decide +kernel
theorem dX11_doNow_116 : decode cX11_doNow 116 = .ok (.bipush 49, 2) := by decide +kernel
theorem dX11_doNow_118 : decode cX11_doNow 118 = .ok (.iaload, 1) := by decide +kernel
theorem dX11_doNow_119 : decode cX11_doNow 119 = .ok (.istore 4, 2) := by decide +kernel
theorem dX11_doNow_121 : decode cX11_doNow 121 = .ok (.aload_n 0, 1) := by decide +kernel
theorem dX11_doNow_122 : decode cX11_doNow 122 = .ok (.getfield 32, 3) := by decide +kernel
theorem dX11_doNow_125 : decode cX11_doNow 125 = .ok (.bipush 49, 2) := by decide +kernel
theorem dX11_doNow_127 : decode cX11_doNow 127 = .ok (.iload_n 2, 1) := by decide +kernel
theorem dX11_doNow_128 : decode cX11_doNow 128 = .ok (.iastore, 1) := by decide +kernel
theorem dX11_doNow_129 : decode cX11_doNow 129 = .ok (.iload 4, 2) := by decide +kernel
theorem dX11_doNow_131 : decode cX11_doNow 131 = .ok (.ireturn, 1) := by decide +kernel
theorem dX11_doNow_132 : decode cX11_doNow 132 = .ok (.aload_n 0, 1) := by decide +kernel
theorem dX11_doNow_133 : decode cX11_doNow 133 = .ok (.iload_n 2, 1) := by decide +kernel
theorem dX11_doNow_134 : decode cX11_doNow 134 = .ok (.iload_n 3, 1) := by decide +kernel
theorem dX11_doNow_135 : decode cX11_doNow 135 = .ok (.invokevirtual 394, 3) := by decide +kernel
theorem dX11_doNow_138 : decode cX11_doNow 138 = .ok (.ireturn, 1) := by decide +kernel
theorem dX11_keep_0 : decode cX11_keep 0 = .ok (.aload_n 0, 1) := by decide +kernel
theorem dX11_keep_1 : decode cX11_keep 1 = .ok (.getfield 266, 3) := by decide +kernel
theorem dX11_keep_4 : decode cX11_keep 4 = .ok (.bipush 40, 2) := by decide +kernel
theorem dX11_keep_6 : decode cX11_keep 6 = .ok (.if_icmp .ne 46, 3) := by decide +kernel
theorem dX11_keep_9 : decode cX11_keep 9 = .ok (.sipush 231, 3) := by decide +kernel
theorem dX11_keep_12 : decode cX11_keep 12 = .ok (.istore_n 1, 1) := by decide +kernel
theorem dX11_keep_13 : decode cX11_keep 13 = .ok (.iload_n 1, 1) := by decide +kernel
theorem dX11_keep_14 : decode cX11_keep 14 = .ok (.sipush 9240, 3) := by decide +kernel
theorem dX11_keep_17 : decode cX11_keep 17 = .ok (.if_icmp .ge 25, 3) := by decide +kernel
theorem dX11_keep_20 : decode cX11_keep 20 = .ok (.aload_n 0, 1) := by decide +kernel
theorem dX11_keep_21 : decode cX11_keep 21 = .ok (.getfield 77, 3) := by decide +kernel
theorem dX11_keep_24 : decode cX11_keep 24 = .ok (.iload_n 1, 1) := by decide +kernel
theorem dX11_keep_25 : decode cX11_keep 25 = .ok (.sipush 231, 3) := by decide +kernel
theorem dX11_keep_28 : decode cX11_keep 28 = .ok (.isub, 1) := by decide +kernel
theorem dX11_keep_29 : decode cX11_keep 29 = .ok (.aload_n 0, 1) := by decide +kernel
theorem dX11_keep_30 : decode cX11_keep 30 = .ok (.getfield 77, 3) := by decide +kernel
theorem dX11_keep_33 : decode cX11_keep 33 = .ok (.iload_n 1, 1) := by decide +kernel
theorem dX11_keep_34 : decode cX11_keep 34 = .ok (.iaload, 1) := by decide +kernel
theorem dX11_keep_35 : decode cX11_keep 35 = .ok (.iastore, 1) := by decide +kernel
theorem dX11_keep_36 : decode cX11_keep 36 = .ok (.iinc 1 1, 3) := by decide +kernel
theorem dX11_keep_39 : decode cX11_keep 39 = .ok (.goto (-26), 3) := by decide +kernel
theorem dX11_keep_42 : decode cX11_keep 42 = .ok (.aload_n 0, 1) := by decide +kernel
theorem dX11_keep_43 : decode cX11_keep 43 = .ok (.dup, 1) := by decide +kernel
theorem dX11_keep_44 : decode cX11_keep 44 = .ok (.getfield 266, 3) := by decide +kernel
theorem dX11_keep_47 : decode cX11_keep 47 = .ok (.iconst 1, 1) := by decide +kernel
theorem dX11_keep_48 : decode cX11_keep 48 = .ok (.isub, 1) := by decide +kernel
theorem dX11_keep_49 : decode cX11_keep 49 = .ok (.putfield 266, 3) := by decide +kernel
theorem dX11_keep_52 : decode cX11_keep 52 = .ok (.iconst 0, 1) := by decide +kernel
theorem dX11_keep_53 : decode cX11_keep 53 = .ok (.istore_n 1, 1) := by decide +kernel
theorem dX11_keep_54 : decode cX11_keep 54 = .ok (.iload_n 1, 1) := by decide +kernel
theorem dX11_keep_55 : decode cX11_keep 55 = .ok (.sipush 231, 3) := by decide +kernel
theorem dX11_keep_58 : decode cX11_keep 58 = .ok (.if_icmp .ge 30, 3) := by decide +kernel
theorem dX11_keep_61 : decode cX11_keep 61 = .ok (.aload_n 0, 1) := by decide +kernel
theorem dX11_keep_62 : decode cX11_keep 62 = .ok (.getfield 77, 3) := by decide +kernel
theorem dX11_keep_65 : decode cX11_keep 65 = .ok (.sipush 231, 3) := by decide +kernel
theorem dX11_keep_68 : decode cX11_keep 68 = .ok (.aload_n 0, 1) := by decide +kernel
theorem dX11_keep_69 : decode cX11_keep 69 = .ok (.getfield 266, 3) := by decide +kernel
theorem dX11_keep_72 : decode cX11_keep 72 = .ok (.imul, 1) := by decide +kernel
theorem dX11_keep_73 : decode cX11_keep 73 = .ok (.iload_n 1, 1) := by decide +kernel
theorem dX11_keep_74 : decode cX11_keep 74 = .ok (.iadd, 1) := by decide +kernel
theorem dX11_keep_75 : decode cX11_keep 75 = .ok (.aload_n 0, 1) := by decide +kernel
theorem dX11_keep_76 : decode cX11_keep 76 = .ok (.getfield 32, 3) := by decide +kernel
theorem dX11_keep_79 : decode cX11_keep 79 = .ok (.iload_n 1, 1) := by decide +kernel
theorem dX11_keep_80 : decode cX11_keep 80 = .ok (.iaload, 1) := by decide +kernel
theorem dX11_keep_81 : decode cX11_keep 81 = .ok (.iastore, 1) := by decide +kernel
theorem dX11_keep_82 : decode cX11_keep 82 = .ok (.iinc 1 1, 3) := by decide +kernel
theorem dX11_keep_85 : decode cX11_keep 85 = .ok (.goto (-31), 3) := by decide +kernel
theorem dX11_keep_88 : decode cX11_keep 88 = .ok (.aload_n 0, 1) := by decide +kernel
theorem dX11_keep_89 : decode cX11_keep 89 = .ok (.dup, 1) := by decide +kernel
theorem dX11_keep_90 : decode cX11_keep 90 = .ok (.getfield 266, 3) := by decide +kernel
theorem dX11_keep_93 : decode cX11_keep 93 = .ok (.iconst 1, 1) := by decide +kernel
theorem dX11_keep_94 : decode cX11_keep 94 = .ok (.iadd, 1) := by decide +kernel
theorem dX11_keep_95 : decode cX11_keep 95 = .ok (.putfield 266, 3) := by decide +kernel
theorem dX11_keep_98 : decode cX11_keep 98 = .ok (.return_, 1) := by decide +kernel
theorem dX11_note_0 : decode cX11_note 0 = .ok (.aload_n 0, 1) := by decide +kernel
theorem dX11_note_1 : decode cX11_note 1 = .ok (.getfield 32, 3) := by decide +kernel
theorem dX11_note_4 : decode cX11_note 4 = .ok (.bipush 50, 2) := by decide +kernel
theorem dX11_note_6 : decode cX11_note 6 = .ok (.iaload, 1) := by decide +kernel
theorem dX11_note_7 : decode cX11_note 7 = .ok (.bipush 60, 2) := by decide +kernel
theorem dX11_note_9 : decode cX11_note 9 = .ok (.if_icmp .ne 49, 3) := by decide +kernel
theorem dX11_note_12 : decode cX11_note 12 = .ok (.iconst 3, 1) := by decide +kernel
theorem dX11_note_13 : decode cX11_note 13 = .ok (.istore_n 3, 1) := by decide +kernel
theorem dX11_note_14 : decode cX11_note 14 = .ok (.iload_n 3, 1) := by decide +kernel
theorem dX11_note_15 : decode cX11_note 15 = .ok (.sipush 180, 3) := by decide +kernel
theorem dX11_note_18 : decode cX11_note 18 = .ok (.if_icmp .ge 29, 3) := by decide +kernel
theorem dX11_note_21 : decode cX11_note 21 = .ok (.aload_n 0, 1) := by decide +kernel
theorem dX11_note_22 : decode cX11_note 22 = .ok (.getfield 32, 3) := by decide +kernel
theorem dX11_note_25 : decode cX11_note 25 = .ok (.bipush 51, 2) := by decide +kernel
theorem dX11_note_27 : decode cX11_note 27 = .ok (.iload_n 3, 1) := by decide +kernel
theorem dX11_note_28 : decode cX11_note 28 = .ok (.iadd, 1) := by decide +kernel
theorem dX11_note_29 : decode cX11_note 29 = .ok (.iconst 3, 1) := by decide +kernel
theorem dX11_note_30 : decode cX11_note 30 = .ok (.isub, 1) := by decide +kernel
theorem dX11_note_31 : decode cX11_note 31 = .ok (.aload_n 0, 1) := by decide +kernel
theorem dX11_note_32 : decode cX11_note 32 = .ok (.getfield 32, 3) := by decide +kernel
theorem dX11_note_35 : decode cX11_note 35 = .ok (.bipush 51, 2) := by decide +kernel
theorem dX11_note_37 : decode cX11_note 37 = .ok (.iload_n 3, 1) := by decide +kernel
theorem dX11_note_38 : decode cX11_note 38 = .ok (.iadd, 1) := by decide +kernel
theorem dX11_note_39 : decode cX11_note 39 = .ok (.iaload, 1) := by decide +kernel
theorem dX11_note_40 : decode cX11_note 40 = .ok (.iastore, 1) := by decide +kernel
theorem dX11_note_41 : decode cX11_note 41 = .ok (.iinc 3 1, 3) := by decide +kernel
theorem dX11_note_44 : decode cX11_note 44 = .ok (.goto (-30), 3) := by decide +kernel
theorem dX11_note_47 : decode cX11_note 47 = .ok (.aload_n 0, 1) := by decide +kernel
theorem dX11_note_48 : decode cX11_note 48 = .ok (.getfield 32, 3) := by decide +kernel
theorem dX11_note_51 : decode cX11_note 51 = .ok (.bipush 50, 2) := by decide +kernel
theorem dX11_note_53 : decode cX11_note 53 = .ok (.dup2, 1) := by decide +kernel
theorem dX11_note_54 : decode cX11_note 54 = .ok (.iaload, 1) := by decide +kernel
theorem dX11_note_55 : decode cX11_note 55 = .ok (.iconst 1, 1) := by decide +kernel
theorem dX11_note_56 : decode cX11_note 56 = .ok (.isub, 1) := by decide +kernel
theorem dX11_note_57 : decode cX11_note 57 = .ok (.iastore, 1) := by decide +kernel
theorem dX11_note_58 : decode cX11_note 58 = .ok (.bipush 51, 2) := by decide +kernel
theorem dX11_note_60 : decode cX11_note 60 = .ok (.iconst 3, 1) := by decide +kernel
theorem dX11_note_61 : decode cX11_note 61 = .ok (.aload_n 0, 1) := by decide +kernel
theorem dX11_note_62 : decode cX11_note 62 = .ok (.getfield 32, 3) := by decide +kernel
theorem dX11_note_65 : decode cX11_note 65 = .ok (.bipush 50, 2) := by decide +kernel
theorem dX11_note_67 : decode cX11_note 67 = .ok (.iaload, 1) := by decide +kernel
theorem dX11_note_68 : decode cX11_note 68 = .ok (.imul, 1) := by decide +kernel
theorem dX11_note_69 : decode cX11_note 69 = .ok (.iadd, 1) := by decide +kernel
theorem dX11_note_70 : decode cX11_note 70 = .ok (.istore_n 3, 1) := by decide +kernel
theorem dX11_note_71 : decode cX11_note 71 = .ok (.aload_n 0, 1) := by decide +kernel
theorem dX11_note_72 : decode cX11_note 72 = .ok (.getfield 32, 3) := by decide +kernel
theorem dX11_note_75 : decode cX11_note 75 = .ok (.iload_n 3, 1) := by decide +kernel
theorem dX11_note_76 : decode cX11_note 76 = .ok (.iload_n 1, 1) := by decide +kernel
theorem dX11_note_77 : decode cX11_note 77 = .ok (.iastore, 1) := by decide +kernel
theorem dX11_note_78 : decode cX11_note 78 = .ok (.aload_n 0, 1) := by decide +kernel
theorem dX11_note_79 : decode cX11_note 79 = .ok (.getfield 32, 3) := by decide +kernel
theorem dX11_note_82 : decode cX11_note 82 = .ok (.iload_n 3, 1) := by decide +kernel
theorem dX11_note_83 : decode cX11_note 83 = .ok (.iconst 1, 1) := by decide +kernel
theorem dX11_note_84 : decode cX11_note 84 = .ok (.iadd, 1) := by decide +kernel
theorem dX11_note_85 : decode cX11_note 85 = .ok (.iload_n 2, 1) := by decide +kernel
theorem dX11_note_86 : decode cX11_note 86 = .ok (.iastore, 1) := by decide +kernel
theorem dX11_note_87 : decode cX11_note 87 = .ok (.aload_n 0, 1) := by decide +kernel
theorem dX11_note_88 : decode cX11_note 88 = .ok (.getfield 32, 3) := by decide +kernel
theorem dX11_note_91 : decode cX11_note 91 = .ok (.iload_n 3, 1) := by decide +kernel
theorem dX11_note_92 : decode cX11_note 92 = .ok (.iconst 2, 1) := by decide +kernel
theorem dX11_note_93 : decode cX11_note 93 = .ok (.iadd, 1) := by decide +kernel
theorem dX11_note_94 : decode cX11_note 94 = .ok (.aload_n 0, 1) := by decide +kernel
theorem dX11_note_95 : decode cX11_note 95 = .ok (.invokevirtual 373, 3) := by decide +kernel
theorem dX11_note_98 : decode cX11_note 98 = .ok (.iastore, 1) := by decide +kernel
theorem dX11_note_99 : decode cX11_note 99 = .ok (.aload_n 0, 1) := by decide +kernel
theorem dX11_note_100 : decode cX11_note 100 = .ok (.getfield 32, 3) := by decide +kernel
theorem dX11_note_103 : decode cX11_note 103 = .ok (.bipush 50, 2) := by decide +kernel
theorem dX11_note_105 : decode cX11_note 105 = .ok (.dup2, 1) := by decide +kernel
theorem dX11_note_106 : decode cX11_note 106 = .ok (.iaload, 1) := by decide +kernel
theorem dX11_note_107 : decode cX11_note 107 = .ok (.iconst 1, 1) := by decide +kernel
theorem dX11_note_108 : decode cX11_note 108 = .ok (.iadd, 1) := by decide +kernel
theorem dX11_note_109 : decode cX11_note 109 = .ok (.iastore, 1) := by decide +kernel
theorem dX11_note_110 : decode cX11_note 110 = .ok (.return_, 1) := by decide +kernel
theorem dX11_act_0 : decode cX11_act 0 = .ok (.aload_n 0, 1) := by decide +kernel
theorem dX11_act_1 : decode cX11_act 1 = .ok (.invokevirtual 397, 3) := by decide +kernel
theorem dX11_act_4 : decode cX11_act 4 = .ok (.aload_n 0, 1) := by decide +kernel
theorem dX11_act_5 : decode cX11_act 5 = .ok (.iload_n 1, 1) := by decide +kernel
theorem dX11_act_6 : decode cX11_act 6 = .ok (.iload_n 2, 1) := by decide +kernel
theorem dX11_act_7 : decode cX11_act 7 = .ok (.iload_n 3, 1) := by decide +kernel
theorem dX11_act_8 : decode cX11_act 8 = .ok (.invokevirtual 400, 3) := by decide +kernel
theorem dX11_act_11 : decode cX11_act 11 = .ok (.istore 4, 2) := by decide +kernel
theorem dX11_act_13 : decode cX11_act 13 = .ok (.aload_n 0, 1) := by decide +kernel
theorem dX11_act_14 : decode cX11_act 14 = .ok (.iload_n 1, 1) := by decide +kernel
theorem dX11_act_15 : decode cX11_act 15 = .ok (.iload_n 1, 1) := by decide +kernel
theorem dX11_act_16 : decode cX11_act 16 = .ok (.iconst 3, 1) := by decide +kernel
theorem dX11_act_17 : decode cX11_act 17 = .ok (.if_icmp .gt 7, 3) := by decide +kernel
theorem dX11_act_20 : decode cX11_act 20 = .ok (.iconst 0, 1) := by decide +kernel
theorem dX11_act_21 : decode cX11_act 21 = .ok (.goto 4, 3) := by decide +kernel
theorem dX11_act_24 : decode cX11_act 24 = .ok (.iload_n 2, 1) := by decide +kernel
theorem dX11_act_25 : decode cX11_act 25 = .ok (.invokevirtual 403, 3) := by decide +kernel
theorem dX11_act_28 : decode cX11_act 28 = .ok (.iload 4, 2) := by decide +kernel
theorem dX11_act_30 : decode cX11_act 30 = .ok (.ireturn, 1) := by decide +kernel
theorem dX11_hand_0 : decode cX11_hand 0 = .ok (.aload_n 0, 1) := by decide +kernel
theorem dX11_hand_1 : decode cX11_hand 1 = .ok (.iload_n 1, 1) := by decide +kernel
theorem dX11_hand_2 : decode cX11_hand 2 = .ok (.iload_n 2, 1) := by decide +kernel
theorem dX11_hand_3 : decode cX11_hand 3 = .ok (.iload_n 3, 1) := by decide +kernel
theorem dX11_hand_4 : decode cX11_hand 4 = .ok (.invokevirtual 407, 3) := by decide +kernel
theorem dX11_hand_7 : decode cX11_hand 7 = .ok (.istore 4, 2) := by decide +kernel
theorem dX11_hand_9 : decode cX11_hand 9 = .ok (.iload 4, 2) := by decide +kernel
theorem dX11_hand_11 : decode cX11_hand 11 = .ok (.iconst (-1), 1) := by decide +kernel
theorem dX11_hand_12 : decode cX11_hand 12 = .ok (.if_icmp .eq 16, 3) := by decide +kernel
theorem dX11_hand_15 : decode cX11_hand 15 = .ok (.aload_n 0, 1) := by decide +kernel
theorem dX11_hand_16 : decode cX11_hand 16 = .ok (.getfield 35, 3) := by decide +kernel
theorem dX11_hand_19 : decode cX11_hand 19 = .ok (.iload 4, 2) := by decide +kernel
theorem dX11_hand_21 : decode cX11_hand 21 = .ok (.dup2, 1) := by decide +kernel
theorem dX11_hand_22 : decode cX11_hand 22 = .ok (.iaload, 1) := by decide +kernel
theorem dX11_hand_23 : decode cX11_hand 23 = .ok (.iconst 1, 1) := by decide +kernel
theorem dX11_hand_24 : decode cX11_hand 24 = .ok (.iadd, 1) := by decide +kernel
theorem dX11_hand_25 : decode cX11_hand 25 = .ok (.iastore, 1) := by decide +kernel
theorem dX11_hand_26 : decode cX11_hand 26 = .ok (.iconst (-1), 1) := by decide +kernel
theorem dX11_hand_27 : decode cX11_hand 27 = .ok (.ireturn, 1) := by decide +kernel
theorem dX11_hand_28 : decode cX11_hand 28 = .ok (.aload_n 0, 1) := by decide +kernel
theorem dX11_hand_29 : decode cX11_hand 29 = .ok (.iload_n 1, 1) := by decide +kernel
theorem dX11_hand_30 : decode cX11_hand 30 = .ok (.iload_n 2, 1) := by decide +kernel
theorem dX11_hand_31 : decode cX11_hand 31 = .ok (.iload_n 3, 1) := by decide +kernel
theorem dX11_hand_32 : decode cX11_hand 32 = .ok (.invokevirtual 410, 3) := by decide +kernel
theorem dX11_hand_35 : decode cX11_hand 35 = .ok (.ireturn, 1) := by decide +kernel
theorem dX11_smooth_0 : decode cX11_smooth 0 = .ok (.aload_n 0, 1) := by decide +kernel
theorem dX11_smooth_1 : decode cX11_smooth 1 = .ok (.iconst 0, 1) := by decide +kernel
theorem dX11_smooth_2 : decode cX11_smooth 2 = .ok (.iconst 0, 1) := by decide +kernel
theorem dX11_smooth_3 : decode cX11_smooth 3 = .ok (.iconst 0, 1) := by decide +kernel
theorem dX11_smooth_4 : decode cX11_smooth 4 = .ok (.invokevirtual 413, 3) := by decide +kernel
theorem dX11_smooth_7 : decode cX11_smooth 7 = .ok (.ireturn, 1) := by decide +kernel
theorem dX11_median_0 : decode cX11_median 0 = .ok (.aload_n 0, 1) := by decide +kernel
theorem dX11_median_1 : decode cX11_median 1 = .ok (.iconst 1, 1) := by decide +kernel
theorem dX11_median_2 : decode cX11_median 2 = .ok (.iconst 0, 1) := by decide +kernel
theorem dX11_median_3 : decode cX11_median 3 = .ok (.iconst 0, 1) := by decide +kernel
theorem dX11_median_4 : decode cX11_median 4 = .ok (.invokevirtual 413, 3) := by decide +kernel
theorem dX11_median_7 : decode cX11_median 7 = .ok (.ireturn, 1) := by decide +kernel
theorem dX11_flat_0 : decode cX11_flat 0 = .ok (.aload_n 0, 1) := by decide +kernel
theorem dX11_flat_1 : decode cX11_flat 1 = .ok (.iconst 2, 1) := by decide +kernel
theorem dX11_flat_2 : decode cX11_flat 2 = .ok (.iconst 0, 1) := by decide +kernel
theorem dX11_flat_3 : decode cX11_flat 3 = .ok (.iconst 0, 1) := by decide +kernel
theorem dX11_flat_4 : decode cX11_flat 4 = .ok (.invokevirtual 413, 3) := by decide +kernel
theorem dX11_flat_7 : decode cX11_flat 7 = .ok (.ireturn, 1) := by decide +kernel
theorem dX11_turn_0 : decode cX11_turn 0 = .ok (.aload_n 0, 1) := by decide +kernel
theorem dX11_turn_1 : decode cX11_turn 1 = .ok (.iconst 3, 1) := by decide +kernel
theorem dX11_turn_2 : decode cX11_turn 2 = .ok (.iconst 0, 1) := by decide +kernel
theorem dX11_turn_3 : decode cX11_turn 3 = .ok (.iconst 0, 1) := by decide +kernel
theorem dX11_turn_4 : decode cX11_turn 4 = .ok (.invokevirtual 413, 3) := by decide +kernel
theorem dX11_turn_7 : decode cX11_turn 7 = .ok (.ireturn, 1) := by decide +kernel
theorem dX11_clip_0 : decode cX11_clip 0 = .ok (.aload_n 0, 1) := by decide +kernel
theorem dX11_clip_1 : decode cX11_clip 1 = .ok (.iconst 4, 1) := by decide +kernel
theorem dX11_clip_2 : decode cX11_clip 2 = .ok (.iload_n 1, 1) := by decide +kernel
theorem dX11_clip_3 : decode cX11_clip 3 = .ok (.iconst 0, 1) := by decide +kernel
theorem dX11_clip_4 : decode cX11_clip 4 = .ok (.invokevirtual 413, 3) := by decide +kernel
theorem dX11_clip_7 : decode cX11_clip 7 = .ok (.ireturn, 1) := by decide +kernel
theorem dX11_lift_0 : decode cX11_lift 0 = .ok (.aload_n 0, 1) := by decide +kernel
theorem dX11_lift_1 : decode cX11_lift 1 = .ok (.iconst 5, 1) := by decide +kernel
theorem dX11_lift_2 : decode cX11_lift 2 = .ok (.iload_n 1, 1) := by decide +kernel
theorem dX11_lift_3 : decode cX11_lift 3 = .ok (.iconst 0, 1) := by decide +kernel
theorem dX11_lift_4 : decode cX11_lift 4 = .ok (.invokevirtual 413, 3) := by decide +kernel
theorem dX11_lift_7 : decode cX11_lift 7 = .ok (.ireturn, 1) := by decide +kernel
theorem dX11_scale_0 : decode cX11_scale 0 = .ok (.aload_n 0, 1) := by decide +kernel
theorem dX11_scale_1 : decode cX11_scale 1 = .ok (.bipush 6, 2) := by decide +kernel
theorem dX11_scale_3 : decode cX11_scale 3 = .ok (.iload_n 1, 1) := by decide +kernel
theorem dX11_scale_4 : decode cX11_scale 4 = .ok (.iload_n 2, 1) := by decide +kernel
theorem dX11_scale_5 : decode cX11_scale 5 = .ok (.invokevirtual 413, 3) := by decide +kernel
theorem dX11_scale_8 : decode cX11_scale 8 = .ok (.ireturn, 1) := by decide +kernel
theorem dX11_set_0 : decode cX11_set 0 = .ok (.aload_n 0, 1) := by decide +kernel
theorem dX11_set_1 : decode cX11_set 1 = .ok (.bipush 7, 2) := by decide +kernel
theorem dX11_set_3 : decode cX11_set 3 = .ok (.iload_n 1, 1) := by decide +kernel
theorem dX11_set_4 : decode cX11_set 4 = .ok (.iload_n 2, 1) := by decide +kernel
theorem dX11_set_5 : decode cX11_set 5 = .ok (.invokevirtual 413, 3) := by decide +kernel
theorem dX11_set_8 : decode cX11_set 8 = .ok (.ireturn, 1) := by decide +kernel
theorem dX11_noise_0 : decode cX11_noise 0 = .ok (.aload_n 0, 1) := by decide +kernel
theorem dX11_noise_1 : decode cX11_noise 1 = .ok (.bipush 8, 2) := by decide +kernel
theorem dX11_noise_3 : decode cX11_noise 3 = .ok (.iload_n 1, 1) := by decide +kernel
theorem dX11_noise_4 : decode cX11_noise 4 = .ok (.iconst 0, 1) := by decide +kernel
theorem dX11_noise_5 : decode cX11_noise 5 = .ok (.invokevirtual 413, 3) := by decide +kernel
theorem dX11_noise_8 : decode cX11_noise 8 = .ok (.ireturn, 1) := by decide +kernel
theorem dX11_cut_0 : decode cX11_cut 0 = .ok (.aload_n 0, 1) := by decide +kernel
theorem dX11_cut_1 : decode cX11_cut 1 = .ok (.bipush 9, 2) := by decide +kernel
theorem dX11_cut_3 : decode cX11_cut 3 = .ok (.iload_n 1, 1) := by decide +kernel
theorem dX11_cut_4 : decode cX11_cut 4 = .ok (.iload_n 2, 1) := by decide +kernel
theorem dX11_cut_5 : decode cX11_cut 5 = .ok (.invokevirtual 413, 3) := by decide +kernel
theorem dX11_cut_8 : decode cX11_cut 8 = .ok (.ireturn, 1) := by decide +kernel
theorem dX11_draw_0 : decode cX11_draw 0 = .ok (.aload_n 0, 1) := by decide +kernel
theorem dX11_draw_1 : decode cX11_draw 1 = .ok (.aload_n 0, 1) := by decide +kernel
theorem dX11_draw_2 : decode cX11_draw 2 = .ok (.getfield 416, 3) := by decide +kernel
theorem dX11_draw_5 : decode cX11_draw 5 = .ok (.ldc2_w 419, 3) := by decide +kernel
theorem dX11_draw_8 : decode cX11_draw 8 = .ok (.lmul, 1) := by decide +kernel
theorem dX11_draw_9 : decode cX11_draw 9 = .ok (.ldc2_w 421, 3) := by decide +kernel
theorem dX11_draw_12 : decode cX11_draw 12 = .ok (.ladd, 1) := by decide +kernel
theorem dX11_draw_13 : decode cX11_draw 13 = .ok (.putfield 416, 3) := by decide +kernel
theorem dX11_draw_16 : decode cX11_draw 16 = .ok (.aload_n 0, 1) := by decide +kernel
theorem dX11_draw_17 : decode cX11_draw 17 = .ok (.getfield 416, 3) := by decide +kernel
theorem dX11_draw_20 : decode cX11_draw 20 = .ok (.bipush 33, 2) := by decide +kernel
theorem dX11_draw_22 : decode cX11_draw 22 = .ok (.lushr, 1) := by decide +kernel
theorem dX11_draw_23 : decode cX11_draw 23 = .ok (.iload_n 1, 1) := by decide +kernel
theorem dX11_draw_24 : decode cX11_draw 24 = .ok (.i2l, 1) := by decide +kernel
theorem dX11_draw_25 : decode cX11_draw 25 = .ok (.lrem, 1) := by decide +kernel
theorem dX11_draw_26 : decode cX11_draw 26 = .ok (.l2i, 1) := by decide +kernel
theorem dX11_draw_27 : decode cX11_draw 27 = .ok (.ireturn, 1) := by decide +kernel
theorem dX11_drawWay_0 : decode cX11_drawWay 0 = .ok (.aload_n 0, 1) := by decide +kernel
theorem dX11_drawWay_1 : decode cX11_drawWay 1 = .ok (.bipush 8, 2) := by decide +kernel
theorem dX11_drawWay_3 : decode cX11_drawWay 3 = .ok (.invokevirtual 423, 3) := by decide +kernel
theorem dX11_drawWay_6 : decode cX11_drawWay 6 = .ok (.istore_n 1, 1) := by decide +kernel
theorem dX11_drawWay_7 : decode cX11_drawWay 7 = .ok (.iload_n 1, 1) := by decide +kernel
theorem dX11_drawWay_8 : decode cX11_drawWay 8 = .ok (.iconst 3, 1) := by decide +kernel
theorem dX11_drawWay_9 : decode cX11_drawWay 9 = .ok (.if_icmp .ge 14, 3) := by decide +kernel
theorem dX11_drawWay_12 : decode cX11_drawWay 12 = .ok (.aload_n 0, 1) := by decide +kernel
theorem dX11_drawWay_13 : decode cX11_drawWay 13 = .ok (.iload_n 1, 1) := by decide +kernel
theorem dX11_drawWay_14 : decode cX11_drawWay 14 = .ok (.iconst 0, 1) := by decide +kernel
theorem dX11_drawWay_15 : decode cX11_drawWay 15 = .ok (.iconst 0, 1) := by decide +kernel
theorem dX11_drawWay_16 : decode cX11_drawWay 16 = .ok (.invokevirtual 410, 3) := by decide +kernel
theorem dX11_drawWay_19 : decode cX11_drawWay 19 = .ok (.pop, 1) := by decide +kernel
theorem dX11_drawWay_20 : decode cX11_drawWay 20 = .ok (.goto 83, 3) := by decide +kernel
theorem dX11_drawWay_23 : decode cX11_drawWay 23 = .ok (.iload_n 1, 1) := by decide +kernel
theorem dX11_drawWay_24 : decode cX11_drawWay 24 = .ok (.bipush 6, 2) := by decide +kernel
theorem dX11_drawWay_26 : decode cX11_drawWay 26 = .ok (.if_icmp .ge 30, 3) := by decide +kernel
theorem dX11_drawWay_29 : decode cX11_drawWay 29 = .ok (.aload_n 0, 1) := by decide +kernel
theorem dX11_drawWay_30 : decode cX11_drawWay 30 = .ok (.aload_n 0, 1) := by decide +kernel
theorem dX11_drawWay_31 : decode cX11_drawWay 31 = .ok (.invokevirtual 257, 3) := by decide +kernel
theorem dX11_drawWay_34 : decode cX11_drawWay 34 = .ok (.invokevirtual 423, 3) := by decide +kernel
theorem dX11_drawWay_37 : decode cX11_drawWay 37 = .ok (.istore_n 2, 1) := by decide +kernel
theorem dX11_drawWay_38 : decode cX11_drawWay 38 = .ok (.aload_n 0, 1) := by decide +kernel
theorem dX11_drawWay_39 : decode cX11_drawWay 39 = .ok (.bipush 7, 2) := by decide +kernel
theorem dX11_drawWay_41 : decode cX11_drawWay 41 = .ok (.iload_n 2, 1) := by decide +kernel
theorem dX11_drawWay_42 : decode cX11_drawWay 42 = .ok (.aload_n 0, 1) := by decide +kernel
theorem dX11_drawWay_43 : decode cX11_drawWay 43 = .ok (.sipush 1000, 3) := by decide +kernel
theorem dX11_drawWay_46 : decode cX11_drawWay 46 = .ok (.invokevirtual 423, 3) := by decide +kernel
theorem dX11_drawWay_49 : decode cX11_drawWay 49 = .ok (.invokevirtual 410, 3) := by decide +kernel
theorem dX11_drawWay_52 : decode cX11_drawWay 52 = .ok (.pop, 1) := by decide +kernel
theorem dX11_drawWay_53 : decode cX11_drawWay 53 = .ok (.goto 50, 3) := by decide +kernel
theorem dX11_drawWay_56 : decode cX11_drawWay 56 = .ok (.iload_n 1, 1) := by decide +kernel
theorem dX11_drawWay_57 : decode cX11_drawWay 57 = .ok (.bipush 6, 2) := by decide +kernel
theorem dX11_drawWay_59 : decode cX11_drawWay 59 = .ok (.if_icmp .ne 21, 3) := by decide +kernel
theorem dX11_drawWay_62 : decode cX11_drawWay 62 = .ok (.aload_n 0, 1) := by decide +kernel
theorem dX11_drawWay_63 : decode cX11_drawWay 63 = .ok (.bipush 8, 2) := by decide +kernel
theorem dX11_drawWay_65 : decode cX11_drawWay 65 = .ok (.aload_n 0, 1) := by decide +kernel
theorem dX11_drawWay_66 : decode cX11_drawWay 66 = .ok (.sipush 200, 3) := by decide +kernel
theorem dX11_drawWay_69 : decode cX11_drawWay 69 = .ok (.invokevirtual 423, 3) := by decide +kernel
theorem dX11_drawWay_72 : decode cX11_drawWay 72 = .ok (.iconst 0, 1) := by decide +kernel
theorem dX11_drawWay_73 : decode cX11_drawWay 73 = .ok (.invokevirtual 410, 3) := by decide +kernel
theorem dX11_drawWay_76 : decode cX11_drawWay 76 = .ok (.pop, 1) := by decide +kernel
theorem dX11_drawWay_77 : decode cX11_drawWay 77 = .ok (.goto 26, 3) := by decide +kernel
theorem dX11_drawWay_80 : decode cX11_drawWay 80 = .ok (.aload_n 0, 1) := by decide +kernel
theorem dX11_drawWay_81 : decode cX11_drawWay 81 = .ok (.bipush 100, 2) := by decide +kernel
theorem dX11_drawWay_83 : decode cX11_drawWay 83 = .ok (.invokevirtual 423, 3) := by decide +kernel
theorem dX11_drawWay_86 : decode cX11_drawWay 86 = .ok (.istore_n 2, 1) := by decide +kernel
theorem dX11_drawWay_87 : decode cX11_drawWay 87 = .ok (.aload_n 0, 1) := by decide +kernel
theorem dX11_drawWay_88 : decode cX11_drawWay 88 = .ok (.bipush 6, 2) := by decide +kernel
theorem dX11_drawWay_90 : decode cX11_drawWay 90 = .ok (.iload_n 2, 1) := by decide +kernel
theorem dX11_drawWay_91 : decode cX11_drawWay 91 = .ok (.aload_n 0, 1) := by decide +kernel
theorem dX11_drawWay_92 : decode cX11_drawWay 92 = .ok (.bipush 9, 2) := by decide +kernel
theorem dX11_drawWay_94 : decode cX11_drawWay 94 = .ok (.invokevirtual 423, 3) := by decide +kernel
theorem dX11_drawWay_97 : decode cX11_drawWay 97 = .ok (.iconst 1, 1) := by decide +kernel
theorem dX11_drawWay_98 : decode cX11_drawWay 98 = .ok (.iadd, 1) := by decide +kernel
theorem dX11_drawWay_99 : decode cX11_drawWay 99 = .ok (.invokevirtual 410, 3) := by decide +kernel
theorem dX11_drawWay_102 : decode cX11_drawWay 102 = .ok (.pop, 1) := by decide +kernel
theorem dX11_drawWay_103 : decode cX11_drawWay 103 = .ok (.return_, 1) := by decide +kernel
theorem dX11_ways_0 : decode cX11_ways 0 = .ok (.aload_n 0, 1) := by decide +kernel
theorem dX11_ways_1 : decode cX11_ways 1 = .ok (.getfield 254, 3) := by decide +kernel
theorem dX11_ways_4 : decode cX11_ways 4 = .ok (.ifCond .eq 13, 3) := by decide +kernel
theorem dX11_ways_7 : decode cX11_ways 7 = .ok (.iload_n 1, 1) := by decide +kernel
theorem dX11_ways_8 : decode cX11_ways 8 = .ok (.iconst 1, 1) := by decide +kernel
theorem dX11_ways_9 : decode cX11_ways 9 = .ok (.bipush 40, 2) := by decide +kernel
theorem dX11_ways_11 : decode cX11_ways 11 = .ok (.invokestatic 103, 3) := by decide +kernel
theorem dX11_ways_14 : decode cX11_ways 14 = .ok (.ifCond .ne 5, 3) := by decide +kernel
theorem dX11_ways_17 : decode cX11_ways 17 = .ok (.iconst (-1), 1) := by decide +kernel
theorem dX11_ways_18 : decode cX11_ways 18 = .ok (.ireturn, 1) := by decide +kernel
theorem dX11_ways_19 : decode cX11_ways 19 = .ok (.aload_n 0, 1) := by decide +kernel
theorem dX11_ways_20 : decode cX11_ways 20 = .ok (.lload_n 2, 1) := by decide +kernel
theorem dX11_ways_21 : decode cX11_ways 21 = .ok (.putfield 416, 3) := by decide +kernel
theorem dX11_ways_24 : decode cX11_ways 24 = .ok (.iconst 0, 1) := by decide +kernel
theorem dX11_ways_25 : decode cX11_ways 25 = .ok (.istore 4, 2) := by decide +kernel
theorem dX11_ways_27 : decode cX11_ways 27 = .ok (.iload 4, 2) := by decide +kernel
theorem dX11_ways_29 : decode cX11_ways 29 = .ok (.iload_n 1, 1) := by decide +kernel
theorem dX11_ways_30 : decode cX11_ways 30 = .ok (.if_icmp .ge 13, 3) := by decide +kernel
theorem dX11_ways_33 : decode cX11_ways 33 = .ok (.aload_n 0, 1) := by decide +kernel
theorem dX11_ways_34 : decode cX11_ways 34 = .ok (.invokevirtual 426, 3) := by decide +kernel
theorem dX11_ways_37 : decode cX11_ways 37 = .ok (.iinc 4 1, 3) := by decide +kernel
theorem dX11_ways_40 : decode cX11_ways 40 = .ok (.goto (-13), 3) := by decide +kernel
theorem dX11_ways_43 : decode cX11_ways 43 = .ok (.aload_n 0, 1) := by decide +kernel
theorem dX11_ways_44 : decode cX11_ways 44 = .ok (.invokevirtual 373, 3) := by decide +kernel
theorem dX11_ways_47 : decode cX11_ways 47 = .ok (.ireturn, 1) := by decide +kernel
theorem dX11_status_0 : decode cX11_status 0 = .ok (.iload_n 1, 1) := by decide +kernel
theorem dX11_status_1 : decode cX11_status 1 = .ok (.iconst 0, 1) := by decide +kernel
theorem dX11_status_2 : decode cX11_status 2 = .ok (.iconst 1, 1) := by decide +kernel
theorem dX11_status_3 : decode cX11_status 3 = .ok (.invokestatic 103, 3) := by decide +kernel
theorem dX11_status_6 : decode cX11_status 6 = .ok (.ifCond .eq 12, 3) := by decide +kernel
theorem dX11_status_9 : decode cX11_status 9 = .ok (.aload_n 0, 1) := by decide +kernel
theorem dX11_status_10 : decode cX11_status 10 = .ok (.getfield 35, 3) := by decide +kernel
theorem dX11_status_13 : decode cX11_status 13 = .ok (.iload_n 1, 1) := by decide +kernel
theorem dX11_status_14 : decode cX11_status 14 = .ok (.iaload, 1) := by decide +kernel
theorem dX11_status_15 : decode cX11_status 15 = .ok (.goto 4, 3) := by decide +kernel
theorem dX11_status_18 : decode cX11_status 18 = .ok (.iconst (-1), 1) := by decide +kernel
theorem dX11_status_19 : decode cX11_status 19 = .ok (.ireturn, 1) := by decide +kernel
theorem dX11_undo_0 : decode cX11_undo 0 = .ok (.aload_n 0, 1) := by decide +kernel
theorem dX11_undo_1 : decode cX11_undo 1 = .ok (.getfield 266, 3) := by decide +kernel
theorem dX11_undo_4 : decode cX11_undo 4 = .ok (.ifCond .ne 5, 3) := by decide +kernel
theorem dX11_undo_7 : decode cX11_undo 7 = .ok (.iconst (-1), 1) := by decide +kernel
theorem dX11_undo_8 : decode cX11_undo 8 = .ok (.ireturn, 1) := by decide +kernel
theorem dX11_undo_9 : decode cX11_undo 9 = .ok (.aload_n 0, 1) := by decide +kernel
theorem dX11_undo_10 : decode cX11_undo 10 = .ok (.dup, 1) := by decide +kernel
theorem dX11_undo_11 : decode cX11_undo 11 = .ok (.getfield 266, 3) := by decide +kernel
theorem dX11_undo_14 : decode cX11_undo 14 = .ok (.iconst 1, 1) := by decide +kernel
theorem dX11_undo_15 : decode cX11_undo 15 = .ok (.isub, 1) := by decide +kernel
theorem dX11_undo_16 : decode cX11_undo 16 = .ok (.putfield 266, 3) := by decide +kernel
theorem dX11_undo_19 : decode cX11_undo 19 = .ok (.iconst 0, 1) := by decide +kernel
theorem dX11_undo_20 : decode cX11_undo 20 = .ok (.istore_n 1, 1) := by decide +kernel
theorem dX11_undo_21 : decode cX11_undo 21 = .ok (.iload_n 1, 1) := by decide +kernel
theorem dX11_undo_22 : decode cX11_undo 22 = .ok (.sipush 231, 3) := by decide +kernel
theorem dX11_undo_25 : decode cX11_undo 25 = .ok (.if_icmp .ge 30, 3) := by decide +kernel
theorem dX11_undo_28 : decode cX11_undo 28 = .ok (.aload_n 0, 1) := by decide +kernel
theorem dX11_undo_29 : decode cX11_undo 29 = .ok (.getfield 32, 3) := by decide +kernel
theorem dX11_undo_32 : decode cX11_undo 32 = .ok (.iload_n 1, 1) := by decide +kernel
theorem dX11_undo_33 : decode cX11_undo 33 = .ok (.aload_n 0, 1) := by decide +kernel
theorem dX11_undo_34 : decode cX11_undo 34 = .ok (.getfield 77, 3) := by decide +kernel
theorem dX11_undo_37 : decode cX11_undo 37 = .ok (.sipush 231, 3) := by decide +kernel
theorem dX11_undo_40 : decode cX11_undo 40 = .ok (.aload_n 0, 1) := by decide +kernel
theorem dX11_undo_41 : decode cX11_undo 41 = .ok (.getfield 266, 3) := by decide +kernel
theorem dX11_undo_44 : decode cX11_undo 44 = .ok (.imul, 1) := by decide +kernel
theorem dX11_undo_45 : decode cX11_undo 45 = .ok (.iload_n 1, 1) := by decide +kernel
theorem dX11_undo_46 : decode cX11_undo 46 = .ok (.iadd, 1) := by decide +kernel
theorem dX11_undo_47 : decode cX11_undo 47 = .ok (.iaload, 1) := by decide +kernel
theorem dX11_undo_48 : decode cX11_undo 48 = .ok (.iastore, 1) := by decide +kernel
theorem dX11_undo_49 : decode cX11_undo 49 = .ok (.iinc 1 1, 3) := by decide +kernel
theorem dX11_undo_52 : decode cX11_undo 52 = .ok (.goto (-31), 3) := by decide +kernel
theorem dX11_undo_55 : decode cX11_undo 55 = .ok (.aload_n 0, 1) := by decide +kernel
theorem dX11_undo_56 : decode cX11_undo 56 = .ok (.getfield 266, 3) := by decide +kernel
theorem dX11_undo_59 : decode cX11_undo 59 = .ok (.ireturn, 1) := by decide +kernel
theorem dX11_log_0 : decode cX11_log 0 = .ok (.iload_n 1, 1) := by decide +kernel
theorem dX11_log_1 : decode cX11_log 1 = .ok (.iconst 0, 1) := by decide +kernel
theorem dX11_log_2 : decode cX11_log 2 = .ok (.aload_n 0, 1) := by decide +kernel
theorem dX11_log_3 : decode cX11_log 3 = .ok (.getfield 32, 3) := by decide +kernel
theorem dX11_log_6 : decode cX11_log 6 = .ok (.bipush 50, 2) := by decide +kernel
theorem dX11_log_8 : decode cX11_log 8 = .ok (.iaload, 1) := by decide +kernel
theorem dX11_log_9 : decode cX11_log 9 = .ok (.iconst 1, 1) := by decide +kernel
theorem dX11_log_10 : decode cX11_log 10 = .ok (.isub, 1) := by decide +kernel
theorem dX11_log_11 : decode cX11_log 11 = .ok (.invokestatic 103, 3) := by decide +kernel
theorem dX11_log_14 : decode cX11_log 14 = .ok (.ifCond .eq 38, 3) := by decide +kernel
theorem dX11_log_17 : decode cX11_log 17 = .ok (.iload_n 2, 1) := by decide +kernel
theorem dX11_log_18 : decode cX11_log 18 = .ok (.iconst 0, 1) := by decide +kernel
theorem dX11_log_19 : decode cX11_log 19 = .ok (.iconst 2, 1) := by decide +kernel
theorem dX11_log_20 : decode cX11_log 20 = .ok (.invokestatic 103, 3) := by decide +kernel
theorem dX11_log_23 : decode cX11_log 23 = .ok (.ifCond .eq 29, 3) := by decide +kernel
theorem dX11_log_26 : decode cX11_log 26 = .ok (.aload_n 0, 1) := by decide +kernel
theorem dX11_log_27 : decode cX11_log 27 = .ok (.getfield 32, 3) := by decide +kernel
theorem dX11_log_30 : decode cX11_log 30 = .ok (.bipush 51, 2) := by decide +kernel
theorem dX11_log_32 : decode cX11_log 32 = .ok (.iconst 3, 1) := by decide +kernel
theorem dX11_log_33 : decode cX11_log 33 = .ok (.aload_n 0, 1) := by decide +kernel
theorem dX11_log_34 : decode cX11_log 34 = .ok (.getfield 32, 3) := by decide +kernel
theorem dX11_log_37 : decode cX11_log 37 = .ok (.bipush 50, 2) := by decide +kernel
theorem dX11_log_39 : decode cX11_log 39 = .ok (.iaload, 1) := by decide +kernel
theorem dX11_log_40 : decode cX11_log 40 = .ok (.iconst 1, 1) := by decide +kernel
theorem dX11_log_41 : decode cX11_log 41 = .ok (.isub, 1) := by decide +kernel
theorem dX11_log_42 : decode cX11_log 42 = .ok (.iload_n 1, 1) := by decide +kernel
theorem dX11_log_43 : decode cX11_log 43 = .ok (.isub, 1) := by decide +kernel
theorem dX11_log_44 : decode cX11_log 44 = .ok (.imul, 1) := by decide +kernel
theorem dX11_log_45 : decode cX11_log 45 = .ok (.iadd, 1) := by decide +kernel
theorem dX11_log_46 : decode cX11_log 46 = .ok (.iload_n 2, 1) := by decide +kernel
theorem dX11_log_47 : decode cX11_log 47 = .ok (.iadd, 1) := by decide +kernel
theorem dX11_log_48 : decode cX11_log 48 = .ok (.iaload, 1) := by decide +kernel
theorem dX11_log_49 : decode cX11_log 49 = .ok (.goto 5, 3) := by decide +kernel
theorem dX11_log_52 : decode cX11_log 52 = .ok (.ldc 240, 2) := by decide +kernel
theorem dX11_log_54 : decode cX11_log 54 = .ok (.ireturn, 1) := by decide +kernel
theorem dX11_rule_0 : decode cX11_rule 0 = .ok (.aload_n 0, 1) := by decide +kernel
theorem dX11_rule_1 : decode cX11_rule 1 = .ok (.getfield 254, 3) := by decide +kernel
theorem dX11_rule_4 : decode cX11_rule 4 = .ok (.ifCond .eq 13, 3) := by decide +kernel
theorem dX11_rule_7 : decode cX11_rule 7 = .ok (.iload_n 1, 1) := by decide +kernel
theorem dX11_rule_8 : decode cX11_rule 8 = .ok (.iconst 0, 1) := by decide +kernel
theorem dX11_rule_9 : decode cX11_rule 9 = .ok (.bipush 7, 2) := by decide +kernel
theorem dX11_rule_11 : decode cX11_rule 11 = .ok (.invokestatic 103, 3) := by decide +kernel
theorem dX11_rule_14 : decode cX11_rule 14 = .ok (.ifCond .ne 5, 3) := by decide +kernel
theorem dX11_rule_17 : decode cX11_rule 17 = .ok (.iconst (-1), 1) := by decide +kernel
theorem dX11_rule_18 : decode cX11_rule 18 = .ok (.ireturn, 1) := by decide +kernel
theorem dX11_rule_19 : decode cX11_rule 19 = .ok (.aload_n 0, 1) := by decide +kernel
theorem dX11_rule_20 : decode cX11_rule 20 = .ok (.invokevirtual 357, 3) := by decide +kernel
theorem dX11_rule_23 : decode cX11_rule 23 = .ok (.iload_n 1, 1) := by decide +kernel
theorem dX11_rule_24 : decode cX11_rule 24 = .ok (.tableswitch 82 0 6 #[44, 49, 57, 62, 67, 72, 77], 44) := by decide +kernel
theorem dX11_rule_68 : decode cX11_rule 68 = .ok (.aload_n 0, 1) := by decide +kernel
theorem dX11_rule_69 : decode cX11_rule 69 = .ok (.invokevirtual 257, 3) := by decide +kernel
theorem dX11_rule_72 : decode cX11_rule 72 = .ok (.ireturn, 1) := by decide +kernel
theorem dX11_rule_73 : decode cX11_rule 73 = .ok (.aload_n 0, 1) := by decide +kernel
theorem dX11_rule_74 : decode cX11_rule 74 = .ok (.getfield 32, 3) := by decide +kernel
theorem dX11_rule_77 : decode cX11_rule 77 = .ok (.bipush 49, 2) := by decide +kernel
theorem dX11_rule_79 : decode cX11_rule 79 = .ok (.iaload, 1) := by decide +kernel
theorem dX11_rule_80 : decode cX11_rule 80 = .ok (.ireturn, 1) := by decide +kernel
theorem dX11_rule_81 : decode cX11_rule 81 = .ok (.aload_n 0, 1) := by decide +kernel
theorem dX11_rule_82 : decode cX11_rule 82 = .ok (.getfield 260, 3) := by decide +kernel
theorem dX11_rule_85 : decode cX11_rule 85 = .ok (.ireturn, 1) := by decide +kernel
theorem dX11_rule_86 : decode cX11_rule 86 = .ok (.aload_n 0, 1) := by decide +kernel
theorem dX11_rule_87 : decode cX11_rule 87 = .ok (.getfield 263, 3) := by decide +kernel
theorem dX11_rule_90 : decode cX11_rule 90 = .ok (.ireturn, 1) := by decide +kernel
theorem dX11_rule_91 : decode cX11_rule 91 = .ok (.aload_n 0, 1) := by decide +kernel
theorem dX11_rule_92 : decode cX11_rule 92 = .ok (.getfield 281, 3) := by decide +kernel
theorem dX11_rule_95 : decode cX11_rule 95 = .ok (.ireturn, 1) := by decide +kernel
theorem dX11_rule_96 : decode cX11_rule 96 = .ok (.aload_n 0, 1) := by decide +kernel
theorem dX11_rule_97 : decode cX11_rule 97 = .ok (.getfield 314, 3) := by decide +kernel
theorem dX11_rule_100 : decode cX11_rule 100 = .ok (.ireturn, 1) := by decide +kernel
theorem dX11_rule_101 : decode cX11_rule 101 = .ok (.aload_n 0, 1) := by decide +kernel
theorem dX11_rule_102 : decode cX11_rule 102 = .ok (.invokevirtual 305, 3) := by decide +kernel
theorem dX11_rule_105 : decode cX11_rule 105 = .ok (.ireturn, 1) := by decide +kernel
theorem dX11_rule_106 : decode cX11_rule 106 = .ok (.aload_n 0, 1) := by decide +kernel
theorem dX11_rule_107 : decode cX11_rule 107 = .ok (.invokevirtual 429, 3) := by decide +kernel
theorem dX11_rule_110 : decode cX11_rule 110 = .ok (.ireturn, 1) := by decide +kernel
theorem dX11_sumOf_0 : decode cX11_sumOf 0 = .ok (.iconst 0, 1) := by decide +kernel
theorem dX11_sumOf_1 : decode cX11_sumOf 1 = .ok (.istore_n 1, 1) := by decide +kernel
theorem dX11_sumOf_2 : decode cX11_sumOf 2 = .ok (.iconst 0, 1) := by decide +kernel
theorem dX11_sumOf_3 : decode cX11_sumOf 3 = .ok (.istore_n 2, 1) := by decide +kernel
theorem dX11_sumOf_4 : decode cX11_sumOf 4 = .ok (.iload_n 2, 1) := by decide +kernel
theorem dX11_sumOf_5 : decode cX11_sumOf 5 = .ok (.aload_n 0, 1) := by decide +kernel
theorem dX11_sumOf_6 : decode cX11_sumOf 6 = .ok (.invokevirtual 257, 3) := by decide +kernel
theorem dX11_sumOf_9 : decode cX11_sumOf 9 = .ok (.if_icmp .ge 18, 3) := by decide +kernel
theorem dX11_sumOf_12 : decode cX11_sumOf 12 = .ok (.iload_n 1, 1) := by decide +kernel
theorem dX11_sumOf_13 : decode cX11_sumOf 13 = .ok (.aload_n 0, 1) := by decide +kernel
theorem dX11_sumOf_14 : decode cX11_sumOf 14 = .ok (.getfield 32, 3) := by decide +kernel
theorem dX11_sumOf_17 : decode cX11_sumOf 17 = .ok (.iload_n 2, 1) := by decide +kernel
theorem dX11_sumOf_18 : decode cX11_sumOf 18 = .ok (.iaload, 1) := by decide +kernel
theorem dX11_sumOf_19 : decode cX11_sumOf 19 = .ok (.iadd, 1) := by decide +kernel
theorem dX11_sumOf_20 : decode cX11_sumOf 20 = .ok (.istore_n 1, 1) := by decide +kernel
theorem dX11_sumOf_21 : decode cX11_sumOf 21 = .ok (.iinc 2 1, 3) := by decide +kernel
theorem dX11_sumOf_24 : decode cX11_sumOf 24 = .ok (.goto (-20), 3) := by decide +kernel
theorem dX11_sumOf_27 : decode cX11_sumOf 27 = .ok (.iload_n 1, 1) := by decide +kernel
theorem dX11_sumOf_28 : decode cX11_sumOf 28 = .ok (.ireturn, 1) := by decide +kernel
theorem dX11_sample_0 : decode cX11_sample 0 = .ok (.aload_n 0, 1) := by decide +kernel
theorem dX11_sample_1 : decode cX11_sample 1 = .ok (.iload_n 1, 1) := by decide +kernel
theorem dX11_sample_2 : decode cX11_sample 2 = .ok (.invokevirtual 366, 3) := by decide +kernel
theorem dX11_sample_5 : decode cX11_sample 5 = .ok (.ifCond .eq 12, 3) := by decide +kernel
theorem dX11_sample_8 : decode cX11_sample 8 = .ok (.aload_n 0, 1) := by decide +kernel
theorem dX11_sample_9 : decode cX11_sample 9 = .ok (.getfield 32, 3) := by decide +kernel
theorem dX11_sample_12 : decode cX11_sample 12 = .ok (.iload_n 1, 1) := by decide +kernel
theorem dX11_sample_13 : decode cX11_sample 13 = .ok (.iaload, 1) := by decide +kernel
theorem dX11_sample_14 : decode cX11_sample 14 = .ok (.goto 4, 3) := by decide +kernel
theorem dX11_sample_17 : decode cX11_sample 17 = .ok (.iconst (-1), 1) := by decide +kernel
theorem dX11_sample_18 : decode cX11_sample 18 = .ok (.ireturn, 1) := by decide +kernel
theorem dX11_isPeak_0 : decode cX11_isPeak 0 = .ok (.aload_n 0, 1) := by decide +kernel
theorem dX11_isPeak_1 : decode cX11_isPeak 1 = .ok (.getfield 254, 3) := by decide +kernel
theorem dX11_isPeak_4 : decode cX11_isPeak 4 = .ok (.ifCond .ne 5, 3) := by decide +kernel
theorem dX11_isPeak_7 : decode cX11_isPeak 7 = .ok (.iconst 0, 1) := by decide +kernel
theorem dX11_isPeak_8 : decode cX11_isPeak 8 = .ok (.ireturn, 1) := by decide +kernel
theorem dX11_isPeak_9 : decode cX11_isPeak 9 = .ok (.aload_n 0, 1) := by decide +kernel
theorem dX11_isPeak_10 : decode cX11_isPeak 10 = .ok (.invokevirtual 357, 3) := by decide +kernel
theorem dX11_isPeak_13 : decode cX11_isPeak 13 = .ok (.iload_n 1, 1) := by decide +kernel
theorem dX11_isPeak_14 : decode cX11_isPeak 14 = .ok (.iconst 0, 1) := by decide +kernel
theorem dX11_isPeak_15 : decode cX11_isPeak 15 = .ok (.aload_n 0, 1) := by decide +kernel
theorem dX11_isPeak_16 : decode cX11_isPeak 16 = .ok (.getfield 281, 3) := by decide +kernel
theorem dX11_isPeak_19 : decode cX11_isPeak 19 = .ok (.iconst 1, 1) := by decide +kernel
theorem dX11_isPeak_20 : decode cX11_isPeak 20 = .ok (.isub, 1) := by decide +kernel
theorem dX11_isPeak_21 : decode cX11_isPeak 21 = .ok (.invokestatic 103, 3) := by decide +kernel
theorem dX11_isPeak_24 : decode cX11_isPeak 24 = .ok (.ireturn, 1) := by decide +kernel
theorem dX11_peak_0 : decode cX11_peak 0 = .ok (.aload_n 0, 1) := by decide +kernel
theorem dX11_peak_1 : decode cX11_peak 1 = .ok (.aload_n 0, 1) := by decide +kernel
theorem dX11_peak_2 : decode cX11_peak 2 = .ok (.iload_n 1, 1) := by decide +kernel
theorem dX11_peak_3 : decode cX11_peak 3 = .ok (.invokevirtual 432, 3) := by decide +kernel
theorem dX11_peak_6 : decode cX11_peak 6 = .ok (.ifCond .eq 17, 3) := by decide +kernel
theorem dX11_peak_9 : decode cX11_peak 9 = .ok (.iload_n 2, 1) := by decide +kernel
theorem dX11_peak_10 : decode cX11_peak 10 = .ok (.iconst 0, 1) := by decide +kernel
theorem dX11_peak_11 : decode cX11_peak 11 = .ok (.bipush 8, 2) := by decide +kernel
theorem dX11_peak_13 : decode cX11_peak 13 = .ok (.invokestatic 103, 3) := by decide +kernel
theorem dX11_peak_16 : decode cX11_peak 16 = .ok (.ifCond .eq 7, 3) := by decide +kernel
theorem dX11_peak_19 : decode cX11_peak 19 = .ok (.iconst 0, 1) := by decide +kernel
theorem dX11_peak_20 : decode cX11_peak 20 = .ok (.goto 4, 3) := by decide +kernel
theorem dX11_peak_23 : decode cX11_peak 23 = .ok (.iconst 1, 1) := by decide +kernel
theorem dX11_peak_24 : decode cX11_peak 24 = .ok (.putfield 92, 3) := by decide +kernel
theorem dX11_peak_27 : decode cX11_peak 27 = .ok (.aload_n 0, 1) := by decide +kernel
theorem dX11_peak_28 : decode cX11_peak 28 = .ok (.getfield 92, 3) := by decide +kernel
theorem dX11_peak_31 : decode cX11_peak 31 = .ok (.iconst 1, 1) := by decide +kernel
theorem dX11_peak_32 : decode cX11_peak 32 = .ok (.if_icmp .ne 5, 3) := by decide +kernel
theorem dX11_peak_35 : decode cX11_peak 35 = .ok (.iconst 0, 1) := by decide +kernel
theorem dX11_peak_36 : decode cX11_peak 36 = .ok (.ireturn, 1) := by decide +kernel
theorem dX11_peak_37 : decode cX11_peak 37 = .ok (.aload_n 0, 1) := by decide +kernel
theorem dX11_peak_38 : decode cX11_peak 38 = .ok (.getfield 62, 3) := by decide +kernel
theorem dX11_peak_41 : decode cX11_peak 41 = .ok (.iload_n 1, 1) := by decide +kernel
theorem dX11_peak_42 : decode cX11_peak 42 = .ok (.iaload, 1) := by decide +kernel
theorem dX11_peak_43 : decode cX11_peak 43 = .ok (.istore_n 3, 1) := by decide +kernel
theorem dX11_peak_44 : decode cX11_peak 44 = .ok (.iload_n 2, 1) := by decide +kernel
theorem dX11_peak_45 : decode cX11_peak 45 = .ok (.tableswitch 126 0 7 #[47, 54, 60, 67, 74, 80, 106, 120], 47) := by decide +kernel
theorem dX11_peak_92 : decode cX11_peak 92 = .ok (.aload_n 0, 1) := by decide +kernel
theorem dX11_peak_93 : decode cX11_peak 93 = .ok (.getfield 47, 3) := by decide +kernel
theorem dX11_peak_96 : decode cX11_peak 96 = .ok (.iload_n 3, 1) := by decide +kernel
theorem dX11_peak_97 : decode cX11_peak 97 = .ok (.iaload, 1) := by decide +kernel
theorem dX11_peak_98 : decode cX11_peak 98 = .ok (.ireturn, 1) := by decide +kernel
theorem dX11_peak_99 : decode cX11_peak 99 = .ok (.aload_n 0, 1) := by decide +kernel
theorem dX11_peak_100 : decode cX11_peak 100 = .ok (.iload_n 1, 1) := by decide +kernel
theorem dX11_peak_101 : decode cX11_peak 101 = .ok (.invokevirtual 341, 3) := by decide +kernel
theorem dX11_peak_104 : decode cX11_peak 104 = .ok (.ireturn, 1) := by decide +kernel
theorem dX11_peak_105 : decode cX11_peak 105 = .ok (.aload_n 0, 1) := by decide +kernel
theorem dX11_peak_106 : decode cX11_peak 106 = .ok (.getfield 50, 3) := by decide +kernel
theorem dX11_peak_109 : decode cX11_peak 109 = .ok (.iload_n 3, 1) := by decide +kernel
theorem dX11_peak_110 : decode cX11_peak 110 = .ok (.iaload, 1) := by decide +kernel
theorem dX11_peak_111 : decode cX11_peak 111 = .ok (.ireturn, 1) := by decide +kernel
theorem dX11_peak_112 : decode cX11_peak 112 = .ok (.aload_n 0, 1) := by decide +kernel
theorem dX11_peak_113 : decode cX11_peak 113 = .ok (.getfield 53, 3) := by decide +kernel
theorem dX11_peak_116 : decode cX11_peak 116 = .ok (.iload_n 3, 1) := by decide +kernel
theorem dX11_peak_117 : decode cX11_peak 117 = .ok (.iaload, 1) := by decide +kernel
theorem dX11_peak_118 : decode cX11_peak 118 = .ok (.ireturn, 1) := by decide +kernel
theorem dX11_peak_119 : decode cX11_peak 119 = .ok (.aload_n 0, 1) := by decide +kernel
theorem dX11_peak_120 : decode cX11_peak 120 = .ok (.iload_n 1, 1) := by decide +kernel
theorem dX11_peak_121 : decode cX11_peak 121 = .ok (.invokevirtual 344, 3) := by decide +kernel
theorem dX11_peak_124 : decode cX11_peak 124 = .ok (.ireturn, 1) := by decide +kernel
theorem dX11_peak_125 : decode cX11_peak 125 = .ok (.aload_n 0, 1) := by decide +kernel
theorem dX11_peak_126 : decode cX11_peak 126 = .ok (.getfield 56, 3) := by decide +kernel
theorem dX11_peak_129 : decode cX11_peak 129 = .ok (.iload_n 3, 1) := by decide +kernel
theorem dX11_peak_130 : decode cX11_peak 130 = .ok (.iaload, 1) := by decide +kernel
theorem dX11_peak_131 : decode cX11_peak 131 = .ok (.iconst (-1), 1) := by decide +kernel
theorem dX11_peak_132 : decode cX11_peak 132 = .ok (.if_icmp .ne 7, 3) := by decide +kernel
theorem dX11_peak_135 : decode cX11_peak 135 = .ok (.iconst (-1), 1) := by decide +kernel
theorem dX11_peak_136 : decode cX11_peak 136 = .ok (.goto 14, 3) := by decide +kernel
theorem dX11_peak_139 : decode cX11_peak 139 = .ok (.aload_n 0, 1) := by decide +kernel
theorem dX11_peak_140 : decode cX11_peak 140 = .ok (.getfield 65, 3) := by decide +kernel
theorem dX11_peak_143 : decode cX11_peak 143 = .ok (.aload_n 0, 1) := by decide +kernel
theorem dX11_peak_144 : decode cX11_peak 144 = .ok (.getfield 56, 3) := by decide +kernel
theorem dX11_peak_147 : decode cX11_peak 147 = .ok (.iload_n 3, 1) := by decide +kernel
theorem dX11_peak_148 : decode cX11_peak 148 = .ok (.iaload, 1) := by decide +kernel
theorem dX11_peak_149 : decode cX11_peak 149 = .ok (.iaload, 1) := by decide +kernel
theorem dX11_peak_150 : decode cX11_peak 150 = .ok (.ireturn, 1) := by decide +kernel
theorem dX11_peak_151 : decode cX11_peak 151 = .ok (.aload_n 0, 1) := by decide +kernel
theorem dX11_peak_152 : decode cX11_peak 152 = .ok (.iload_n 1, 1) := by decide +kernel
theorem dX11_peak_153 : decode cX11_peak 153 = .ok (.invokevirtual 435, 3) := by decide +kernel
theorem dX11_peak_156 : decode cX11_peak 156 = .ok (.ifCond .eq 7, 3) := by decide +kernel
theorem dX11_peak_159 : decode cX11_peak 159 = .ok (.iconst 1, 1) := by decide +kernel
theorem dX11_peak_160 : decode cX11_peak 160 = .ok (.goto 4, 3) := by decide +kernel
theorem dX11_peak_163 : decode cX11_peak 163 = .ok (.iconst 0, 1) := by decide +kernel
theorem dX11_peak_164 : decode cX11_peak 164 = .ok (.ireturn, 1) := by decide +kernel
theorem dX11_peak_165 : decode cX11_peak 165 = .ok (.aload_n 0, 1) := by decide +kernel
theorem dX11_peak_166 : decode cX11_peak 166 = .ok (.iload_n 1, 1) := by decide +kernel
theorem dX11_peak_167 : decode cX11_peak 167 = .ok (.invokevirtual 438, 3) := by decide +kernel
theorem dX11_peak_170 : decode cX11_peak 170 = .ok (.ireturn, 1) := by decide +kernel
theorem dX11_peak_171 : decode cX11_peak 171 = .ok (.aload_n 0, 1) := by decide +kernel
theorem dX11_peak_172 : decode cX11_peak 172 = .ok (.getfield 68, 3) := by decide +kernel
theorem dX11_peak_175 : decode cX11_peak 175 = .ok (.iload_n 1, 1) := by decide +kernel
theorem dX11_peak_176 : decode cX11_peak 176 = .ok (.iaload, 1) := by decide +kernel
theorem dX11_peak_177 : decode cX11_peak 177 = .ok (.ireturn, 1) := by decide +kernel
theorem dX11_basin_0 : decode cX11_basin 0 = .ok (.aload_n 0, 1) := by decide +kernel
theorem dX11_basin_1 : decode cX11_basin 1 = .ok (.iload_n 1, 1) := by decide +kernel
theorem dX11_basin_2 : decode cX11_basin 2 = .ok (.invokevirtual 432, 3) := by decide +kernel
theorem dX11_basin_5 : decode cX11_basin 5 = .ok (.ifCond .eq 20, 3) := by decide +kernel
theorem dX11_basin_8 : decode cX11_basin 8 = .ok (.aload_n 0, 1) := by decide +kernel
theorem dX11_basin_9 : decode cX11_basin 9 = .ok (.iload_n 1, 1) := by decide +kernel
theorem dX11_basin_10 : decode cX11_basin 10 = .ok (.invokevirtual 435, 3) := by decide +kernel
theorem dX11_basin_13 : decode cX11_basin 13 = .ok (.ifCond .eq 12, 3) := by decide +kernel
theorem dX11_basin_16 : decode cX11_basin 16 = .ok (.iload_n 2, 1) := by decide +kernel
theorem dX11_basin_17 : decode cX11_basin 17 = .ok (.iconst 0, 1) := by decide +kernel
theorem dX11_basin_18 : decode cX11_basin 18 = .ok (.iconst 3, 1) := by decide +kernel
theorem dX11_basin_19 : decode cX11_basin 19 = .ok (.invokestatic 103, 3) := by decide +kernel
theorem dX11_basin_22 : decode cX11_basin 22 = .ok (.ifCond .ne 5, 3) := by decide +kernel
theorem dX11_basin_25 : decode cX11_basin 25 = .ok (.iconst (-1), 1) := by decide +kernel
theorem dX11_basin_26 : decode cX11_basin 26 = .ok (.ireturn, 1) := by decide +kernel
theorem dX11_basin_27 : decode cX11_basin 27 = .ok (.iload_n 2, 1) := by decide +kernel
theorem dX11_basin_28 : decode cX11_basin 28 = .ok (.ifCond .ne 11, 3) := by decide +kernel
theorem dX11_basin_31 : decode cX11_basin 31 = .ok (.aload_n 0, 1) := by decide +kernel
theorem dX11_basin_32 : decode cX11_basin 32 = .ok (.iload_n 1, 1) := by decide +kernel
theorem dX11_basin_33 : decode cX11_basin 33 = .ok (.invokevirtual 335, 3) := by decide +kernel
theorem dX11_basin_36 : decode cX11_basin 36 = .ok (.goto 34, 3) := by decide +kernel
theorem dX11_basin_39 : decode cX11_basin 39 = .ok (.iload_n 2, 1) := by decide +kernel
theorem dX11_basin_40 : decode cX11_basin 40 = .ok (.iconst 1, 1) := by decide +kernel
theorem dX11_basin_41 : decode cX11_basin 41 = .ok (.if_icmp .ne 11, 3) := by decide +kernel
theorem dX11_basin_44 : decode cX11_basin 44 = .ok (.aload_n 0, 1) := by decide +kernel
theorem dX11_basin_45 : decode cX11_basin 45 = .ok (.iload_n 1, 1) := by decide +kernel
theorem dX11_basin_46 : decode cX11_basin 46 = .ok (.invokevirtual 338, 3) := by decide +kernel
theorem dX11_basin_49 : decode cX11_basin 49 = .ok (.goto 21, 3) := by decide +kernel
theorem dX11_basin_52 : decode cX11_basin 52 = .ok (.iload_n 2, 1) := by decide +kernel
theorem dX11_basin_53 : decode cX11_basin 53 = .ok (.iconst 2, 1) := by decide +kernel
theorem dX11_basin_54 : decode cX11_basin 54 = .ok (.if_icmp .ne 11, 3) := by decide +kernel
theorem dX11_basin_57 : decode cX11_basin 57 = .ok (.aload_n 0, 1) := by decide +kernel
theorem dX11_basin_58 : decode cX11_basin 58 = .ok (.iload_n 1, 1) := by decide +kernel
theorem dX11_basin_59 : decode cX11_basin 59 = .ok (.invokevirtual 441, 3) := by decide +kernel
theorem dX11_basin_62 : decode cX11_basin 62 = .ok (.goto 8, 3) := by decide +kernel
theorem dX11_basin_65 : decode cX11_basin 65 = .ok (.aload_n 0, 1) := by decide +kernel
theorem dX11_basin_66 : decode cX11_basin 66 = .ok (.iload_n 1, 1) := by decide +kernel
theorem dX11_basin_67 : decode cX11_basin 67 = .ok (.invokevirtual 444, 3) := by decide +kernel
theorem dX11_basin_70 : decode cX11_basin 70 = .ok (.ireturn, 1) := by decide +kernel
theorem dX11_at_0 : decode cX11_at 0 = .ok (.aload_n 0, 1) := by decide +kernel
theorem dX11_at_1 : decode cX11_at 1 = .ok (.iload_n 1, 1) := by decide +kernel
theorem dX11_at_2 : decode cX11_at 2 = .ok (.invokevirtual 366, 3) := by decide +kernel
theorem dX11_at_5 : decode cX11_at 5 = .ok (.ifCond .eq 12, 3) := by decide +kernel
theorem dX11_at_8 : decode cX11_at 8 = .ok (.iload_n 2, 1) := by decide +kernel
theorem dX11_at_9 : decode cX11_at 9 = .ok (.iconst 0, 1) := by decide +kernel
theorem dX11_at_10 : decode cX11_at 10 = .ok (.iconst 1, 1) := by decide +kernel
theorem dX11_at_11 : decode cX11_at 11 = .ok (.invokestatic 103, 3) := by decide +kernel
theorem dX11_at_14 : decode cX11_at 14 = .ok (.ifCond .ne 5, 3) := by decide +kernel
theorem dX11_at_17 : decode cX11_at 17 = .ok (.iconst (-1), 1) := by decide +kernel
theorem dX11_at_18 : decode cX11_at 18 = .ok (.ireturn, 1) := by decide +kernel
theorem dX11_at_19 : decode cX11_at 19 = .ok (.aload_n 0, 1) := by decide +kernel
theorem dX11_at_20 : decode cX11_at 20 = .ok (.invokevirtual 357, 3) := by decide +kernel
theorem dX11_at_23 : decode cX11_at 23 = .ok (.iconst 0, 1) := by decide +kernel
theorem dX11_at_24 : decode cX11_at 24 = .ok (.istore_n 3, 1) := by decide +kernel
theorem dX11_at_25 : decode cX11_at 25 = .ok (.iload_n 3, 1) := by decide +kernel
theorem dX11_at_26 : decode cX11_at 26 = .ok (.aload_n 0, 1) := by decide +kernel
theorem dX11_at_27 : decode cX11_at 27 = .ok (.getfield 281, 3) := by decide +kernel
theorem dX11_at_30 : decode cX11_at 30 = .ok (.if_icmp .ge 69, 3) := by decide +kernel
theorem dX11_at_33 : decode cX11_at 33 = .ok (.iload_n 2, 1) := by decide +kernel
theorem dX11_at_34 : decode cX11_at 34 = .ok (.ifCond .ne 20, 3) := by decide +kernel
theorem dX11_at_37 : decode cX11_at 37 = .ok (.aload_n 0, 1) := by decide +kernel
theorem dX11_at_38 : decode cX11_at 38 = .ok (.iload_n 3, 1) := by decide +kernel
theorem dX11_at_39 : decode cX11_at 39 = .ok (.invokevirtual 320, 3) := by decide +kernel
theorem dX11_at_42 : decode cX11_at 42 = .ok (.iload_n 1, 1) := by decide +kernel
theorem dX11_at_43 : decode cX11_at 43 = .ok (.if_icmp .ne 7, 3) := by decide +kernel
theorem dX11_at_46 : decode cX11_at 46 = .ok (.iconst 1, 1) := by decide +kernel
theorem dX11_at_47 : decode cX11_at 47 = .ok (.goto 37, 3) := by decide +kernel
theorem dX11_at_50 : decode cX11_at 50 = .ok (.iconst 0, 1) := by decide +kernel
theorem dX11_at_51 : decode cX11_at 51 = .ok (.goto 33, 3) := by decide +kernel
theorem dX11_at_54 : decode cX11_at 54 = .ok (.aload_n 0, 1) := by decide +kernel
theorem dX11_at_55 : decode cX11_at 55 = .ok (.iload_n 3, 1) := by decide +kernel
theorem dX11_at_56 : decode cX11_at 56 = .ok (.invokevirtual 435, 3) := by decide +kernel
theorem dX11_at_59 : decode cX11_at 59 = .ok (.ifCond .eq 24, 3) := by decide +kernel
theorem dX11_at_62 : decode cX11_at 62 = .ok (.iload_n 1, 1) := by decide +kernel
theorem dX11_at_63 : decode cX11_at 63 = .ok (.aload_n 0, 1) := by decide +kernel
theorem dX11_at_64 : decode cX11_at 64 = .ok (.iload_n 3, 1) := by decide +kernel
theorem dX11_at_65 : decode cX11_at 65 = .ok (.invokevirtual 335, 3) := by decide +kernel
theorem dX11_at_68 : decode cX11_at 68 = .ok (.aload_n 0, 1) := by decide +kernel
theorem dX11_at_69 : decode cX11_at 69 = .ok (.iload_n 3, 1) := by decide +kernel
theorem dX11_at_70 : decode cX11_at 70 = .ok (.invokevirtual 338, 3) := by decide +kernel
theorem dX11_at_73 : decode cX11_at 73 = .ok (.invokestatic 103, 3) := by decide +kernel
theorem dX11_at_76 : decode cX11_at 76 = .ok (.ifCond .eq 7, 3) := by decide +kernel
theorem dX11_at_79 : decode cX11_at 79 = .ok (.iconst 1, 1) := by decide +kernel
theorem dX11_at_80 : decode cX11_at 80 = .ok (.goto 4, 3) := by decide +kernel
theorem dX11_at_83 : decode cX11_at 83 = .ok (.iconst 0, 1) := by decide +kernel
theorem dX11_at_84 : decode cX11_at 84 = .ok (.istore 4, 2) := by decide +kernel
theorem dX11_at_86 : decode cX11_at 86 = .ok (.iload 4, 2) := by decide +kernel
theorem dX11_at_88 : decode cX11_at 88 = .ok (.ifCond .eq 5, 3) := by decide +kernel
theorem dX11_at_91 : decode cX11_at 91 = .ok (.iload_n 3, 1) := by decide +kernel
theorem dX11_at_92 : decode cX11_at 92 = .ok (.ireturn, 1) := by decide +kernel
theorem dX11_at_93 : decode cX11_at 93 = .ok (.iinc 3 1, 3) := by decide +kernel
theorem dX11_at_96 : decode cX11_at 96 = .ok (.goto (-71), 3) := by decide +kernel
theorem dX11_at_99 : decode cX11_at 99 = .ok (.iconst (-1), 1) := by decide +kernel
theorem dX11_at_100 : decode cX11_at 100 = .ok (.ireturn, 1) := by decide +kernel
theorem dX11_line_0 : decode cX11_line 0 = .ok (.aload_n 0, 1) := by decide +kernel
theorem dX11_line_1 : decode cX11_line 1 = .ok (.getfield 254, 3) := by decide +kernel
theorem dX11_line_4 : decode cX11_line 4 = .ok (.ifCond .eq 26, 3) := by decide +kernel
theorem dX11_line_7 : decode cX11_line 7 = .ok (.iload_n 1, 1) := by decide +kernel
theorem dX11_line_8 : decode cX11_line 8 = .ok (.iconst 0, 1) := by decide +kernel
theorem dX11_line_9 : decode cX11_line 9 = .ok (.aload_n 0, 1) := by decide +kernel
theorem dX11_line_10 : decode cX11_line 10 = .ok (.getfield 263, 3) := by decide +kernel
theorem dX11_line_13 : decode cX11_line 13 = .ok (.iconst 1, 1) := by decide +kernel
theorem dX11_line_14 : decode cX11_line 14 = .ok (.isub, 1) := by decide +kernel
theorem dX11_line_15 : decode cX11_line 15 = .ok (.invokestatic 103, 3) := by decide +kernel
theorem dX11_line_18 : decode cX11_line 18 = .ok (.ifCond .eq 12, 3) := by decide +kernel
theorem dX11_line_21 : decode cX11_line 21 = .ok (.iload_n 2, 1) := by decide +kernel
theorem dX11_line_22 : decode cX11_line 22 = .ok (.iconst 0, 1) := by decide +kernel
theorem dX11_line_23 : decode cX11_line 23 = .ok (.iconst 2, 1) := by decide +kernel
theorem dX11_line_24 : decode cX11_line 24 = .ok (.invokestatic 103, 3) := by decide +kernel
theorem dX11_line_27 : decode cX11_line 27 = .ok (.ifCond .ne 5, 3) := by decide +kernel
theorem dX11_line_30 : decode cX11_line 30 = .ok (.iconst (-1), 1) := by decide +kernel
theorem dX11_line_31 : decode cX11_line 31 = .ok (.ireturn, 1) := by decide +kernel
theorem dX11_line_32 : decode cX11_line 32 = .ok (.aload_n 0, 1) := by decide +kernel
theorem dX11_line_33 : decode cX11_line 33 = .ok (.invokevirtual 357, 3) := by decide +kernel
theorem dX11_line_36 : decode cX11_line 36 = .ok (.iload_n 2, 1) := by decide +kernel
theorem dX11_line_37 : decode cX11_line 37 = .ok (.ifCond .ne 12, 3) := by decide +kernel
theorem dX11_line_40 : decode cX11_line 40 = .ok (.aload_n 0, 1) := by decide +kernel
theorem dX11_line_41 : decode cX11_line 41 = .ok (.getfield 38, 3) := by decide +kernel
theorem dX11_line_44 : decode cX11_line 44 = .ok (.iload_n 1, 1) := by decide +kernel
theorem dX11_line_45 : decode cX11_line 45 = .ok (.iaload, 1) := by decide +kernel
theorem dX11_line_46 : decode cX11_line 46 = .ok (.goto 23, 3) := by decide +kernel
theorem dX11_line_49 : decode cX11_line 49 = .ok (.iload_n 2, 1) := by decide +kernel
theorem dX11_line_50 : decode cX11_line 50 = .ok (.iconst 1, 1) := by decide +kernel
theorem dX11_line_51 : decode cX11_line 51 = .ok (.if_icmp .ne 12, 3) := by decide +kernel
theorem dX11_line_54 : decode cX11_line 54 = .ok (.aload_n 0, 1) := by decide +kernel
theorem dX11_line_55 : decode cX11_line 55 = .ok (.getfield 71, 3) := by decide +kernel
theorem dX11_line_58 : decode cX11_line 58 = .ok (.iload_n 1, 1) := by decide +kernel
theorem dX11_line_59 : decode cX11_line 59 = .ok (.iaload, 1) := by decide +kernel
theorem dX11_line_60 : decode cX11_line 60 = .ok (.goto 9, 3) := by decide +kernel
theorem dX11_line_63 : decode cX11_line 63 = .ok (.aload_n 0, 1) := by decide +kernel
theorem dX11_line_64 : decode cX11_line 64 = .ok (.getfield 41, 3) := by decide +kernel
theorem dX11_line_67 : decode cX11_line 67 = .ok (.iload_n 1, 1) := by decide +kernel
theorem dX11_line_68 : decode cX11_line 68 = .ok (.iaload, 1) := by decide +kernel
theorem dX11_line_69 : decode cX11_line 69 = .ok (.ireturn, 1) := by decide +kernel
theorem dX11_noiseFor_0 : decode cX11_noiseFor 0 = .ok (.aload_n 0, 1) := by decide +kernel
theorem dX11_noiseFor_1 : decode cX11_noiseFor 1 = .ok (.getfield 254, 3) := by decide +kernel
theorem dX11_noiseFor_4 : decode cX11_noiseFor 4 = .ok (.ifCond .eq 13, 3) := by decide +kernel
theorem dX11_noiseFor_7 : decode cX11_noiseFor 7 = .ok (.iload_n 1, 1) := by decide +kernel
theorem dX11_noiseFor_8 : decode cX11_noiseFor 8 = .ok (.iconst 1, 1) := by decide +kernel
theorem dX11_noiseFor_9 : decode cX11_noiseFor 9 = .ok (.bipush 48, 2) := by decide +kernel
theorem dX11_noiseFor_11 : decode cX11_noiseFor 11 = .ok (.invokestatic 103, 3) := by decide +kernel
theorem dX11_noiseFor_14 : decode cX11_noiseFor 14 = .ok (.ifCond .ne 5, 3) := by decide +kernel
theorem dX11_noiseFor_17 : decode cX11_noiseFor 17 = .ok (.iconst (-1), 1) := by decide +kernel
theorem dX11_noiseFor_18 : decode cX11_noiseFor 18 = .ok (.ireturn, 1) := by decide +kernel
theorem dX11_noiseFor_19 : decode cX11_noiseFor 19 = .ok (.aload_n 0, 1) := by decide +kernel
theorem dX11_noiseFor_20 : decode cX11_noiseFor 20 = .ok (.invokevirtual 357, 3) := by decide +kernel
theorem dX11_noiseFor_23 : decode cX11_noiseFor 23 = .ok (.iload_n 1, 1) := by decide +kernel
theorem dX11_noiseFor_24 : decode cX11_noiseFor 24 = .ok (.aload_n 0, 1) := by decide +kernel
theorem dX11_noiseFor_25 : decode cX11_noiseFor 25 = .ok (.getfield 281, 3) := by decide +kernel
theorem dX11_noiseFor_28 : decode cX11_noiseFor 28 = .ok (.if_icmp .ge 11, 3) := by decide +kernel
theorem dX11_noiseFor_31 : decode cX11_noiseFor 31 = .ok (.aload_n 0, 1) := by decide +kernel
theorem dX11_noiseFor_32 : decode cX11_noiseFor 32 = .ok (.iload_n 1, 1) := by decide +kernel
theorem dX11_noiseFor_33 : decode cX11_noiseFor 33 = .ok (.invokevirtual 344, 3) := by decide +kernel
theorem dX11_noiseFor_36 : decode cX11_noiseFor 36 = .ok (.goto 4, 3) := by decide +kernel
theorem dX11_noiseFor_39 : decode cX11_noiseFor 39 = .ok (.iconst 0, 1) := by decide +kernel
theorem dX11_noiseFor_40 : decode cX11_noiseFor 40 = .ok (.ireturn, 1) := by decide +kernel
theorem dX11_pieces_0 : decode cX11_pieces 0 = .ok (.aload_n 0, 1) := by decide +kernel
theorem dX11_pieces_1 : decode cX11_pieces 1 = .ok (.getfield 254, 3) := by decide +kernel
theorem dX11_pieces_4 : decode cX11_pieces 4 = .ok (.ifCond .eq 14, 3) := by decide +kernel
theorem dX11_pieces_7 : decode cX11_pieces 7 = .ok (.iload_n 1, 1) := by decide +kernel
theorem dX11_pieces_8 : decode cX11_pieces 8 = .ok (.iconst 0, 1) := by decide +kernel
theorem dX11_pieces_9 : decode cX11_pieces 9 = .ok (.sipush 999, 3) := by decide +kernel
theorem dX11_pieces_12 : decode cX11_pieces 12 = .ok (.invokestatic 103, 3) := by decide +kernel
theorem dX11_pieces_15 : decode cX11_pieces 15 = .ok (.ifCond .ne 5, 3) := by decide +kernel
theorem dX11_pieces_18 : decode cX11_pieces 18 = .ok (.iconst (-1), 1) := by decide +kernel
theorem dX11_pieces_19 : decode cX11_pieces 19 = .ok (.ireturn, 1) := by decide +kernel
theorem dX11_pieces_20 : decode cX11_pieces 20 = .ok (.iconst 0, 1) := by decide +kernel
theorem dX11_pieces_21 : decode cX11_pieces 21 = .ok (.istore_n 2, 1) := by decide +kernel
theorem dX11_pieces_22 : decode cX11_pieces 22 = .ok (.iconst 0, 1) := by decide +kernel
theorem dX11_pieces_23 : decode cX11_pieces 23 = .ok (.istore_n 3, 1) := by decide +kernel
theorem dX11_pieces_24 : decode cX11_pieces 24 = .ok (.iload_n 3, 1) := by decide +kernel
theorem dX11_pieces_25 : decode cX11_pieces 25 = .ok (.aload_n 0, 1) := by decide +kernel
theorem dX11_pieces_26 : decode cX11_pieces 26 = .ok (.invokevirtual 257, 3) := by decide +kernel
theorem dX11_pieces_29 : decode cX11_pieces 29 = .ok (.if_icmp .ge 43, 3) := by decide +kernel
theorem dX11_pieces_32 : decode cX11_pieces 32 = .ok (.iload_n 2, 1) := by decide +kernel
theorem dX11_pieces_33 : decode cX11_pieces 33 = .ok (.aload_n 0, 1) := by decide +kernel
theorem dX11_pieces_34 : decode cX11_pieces 34 = .ok (.getfield 32, 3) := by decide +kernel
theorem dX11_pieces_37 : decode cX11_pieces 37 = .ok (.iload_n 3, 1) := by decide +kernel
theorem dX11_pieces_38 : decode cX11_pieces 38 = .ok (.iaload, 1) := by decide +kernel
theorem dX11_pieces_39 : decode cX11_pieces 39 = .ok (.iload_n 1, 1) := by decide +kernel
theorem dX11_pieces_40 : decode cX11_pieces 40 = .ok (.if_icmp .lt 23, 3) := by decide +kernel
theorem dX11_pieces_43 : decode cX11_pieces 43 = .ok (.iload_n 3, 1) := by decide +kernel
theorem dX11_pieces_44 : decode cX11_pieces 44 = .ok (.ifCond .eq 15, 3) := by decide +kernel
theorem dX11_pieces_47 : decode cX11_pieces 47 = .ok (.aload_n 0, 1) := by decide +kernel
theorem dX11_pieces_48 : decode cX11_pieces 48 = .ok (.getfield 32, 3) := by decide +kernel
theorem dX11_pieces_51 : decode cX11_pieces 51 = .ok (.iload_n 3, 1) := by decide +kernel
theorem dX11_pieces_52 : decode cX11_pieces 52 = .ok (.iconst 1, 1) := by decide +kernel
theorem dX11_pieces_53 : decode cX11_pieces 53 = .ok (.isub, 1) := by decide +kernel
theorem dX11_pieces_54 : decode cX11_pieces 54 = .ok (.iaload, 1) := by decide +kernel
theorem dX11_pieces_55 : decode cX11_pieces 55 = .ok (.iload_n 1, 1) := by decide +kernel
theorem dX11_pieces_56 : decode cX11_pieces 56 = .ok (.if_icmp .ge 7, 3) := by decide +kernel
theorem dX11_pieces_59 : decode cX11_pieces 59 = .ok (.iconst 1, 1) := by decide +kernel
theorem dX11_pieces_60 : decode cX11_pieces 60 = .ok (.goto 4, 3) := by decide +kernel
theorem dX11_pieces_63 : decode cX11_pieces 63 = .ok (.iconst 0, 1) := by decide +kernel
theorem dX11_pieces_64 : decode cX11_pieces 64 = .ok (.iadd, 1) := by decide +kernel
theorem dX11_pieces_65 : decode cX11_pieces 65 = .ok (.istore_n 2, 1) := by decide +kernel
theorem dX11_pieces_66 : decode cX11_pieces 66 = .ok (.iinc 3 1, 3) := by decide +kernel
theorem dX11_pieces_69 : decode cX11_pieces 69 = .ok (.goto (-45), 3) := by decide +kernel
theorem dX11_pieces_72 : decode cX11_pieces 72 = .ok (.iload_n 2, 1) := by decide +kernel
theorem dX11_pieces_73 : decode cX11_pieces 73 = .ok (.ireturn, 1) := by decide +kernel
theorem dX11_keptBy_0 : decode cX11_keptBy 0 = .ok (.iconst 1, 1) := by decide +kernel
theorem dX11_keptBy_1 : decode cX11_keptBy 1 = .ok (.istore_n 2, 1) := by decide +kernel
theorem dX11_keptBy_2 : decode cX11_keptBy 2 = .ok (.iconst 1, 1) := by decide +kernel
theorem dX11_keptBy_3 : decode cX11_keptBy 3 = .ok (.istore_n 3, 1) := by decide +kernel
theorem dX11_keptBy_4 : decode cX11_keptBy 4 = .ok (.iload_n 3, 1) := by decide +kernel
theorem dX11_keptBy_5 : decode cX11_keptBy 5 = .ok (.aload_n 0, 1) := by decide +kernel
theorem dX11_keptBy_6 : decode cX11_keptBy 6 = .ok (.getfield 281, 3) := by decide +kernel
theorem dX11_keptBy_9 : decode cX11_keptBy 9 = .ok (.if_icmp .ge 26, 3) := by decide +kernel
theorem dX11_keptBy_12 : decode cX11_keptBy 12 = .ok (.iload_n 2, 1) := by decide +kernel
theorem dX11_keptBy_13 : decode cX11_keptBy 13 = .ok (.aload_n 0, 1) := by decide +kernel
theorem dX11_keptBy_14 : decode cX11_keptBy 14 = .ok (.iload_n 3, 1) := by decide +kernel
theorem dX11_keptBy_15 : decode cX11_keptBy 15 = .ok (.invokevirtual 344, 3) := by decide +kernel
theorem dX11_keptBy_18 : decode cX11_keptBy 18 = .ok (.iload_n 1, 1) := by decide +kernel
theorem dX11_keptBy_19 : decode cX11_keptBy 19 = .ok (.if_icmp .le 7, 3) := by decide +kernel
theorem dX11_keptBy_22 : decode cX11_keptBy 22 = .ok (.iconst 1, 1) := by decide +kernel
theorem dX11_keptBy_23 : decode cX11_keptBy 23 = .ok (.goto 4, 3) := by decide +kernel
theorem dX11_keptBy_26 : decode cX11_keptBy 26 = .ok (.iconst 0, 1) := by decide +kernel
theorem dX11_keptBy_27 : decode cX11_keptBy 27 = .ok (.iadd, 1) := by decide +kernel
theorem dX11_keptBy_28 : decode cX11_keptBy 28 = .ok (.istore_n 2, 1) := by decide +kernel
theorem dX11_keptBy_29 : decode cX11_keptBy 29 = .ok (.iinc 3 1, 3) := by decide +kernel
theorem dX11_keptBy_32 : decode cX11_keptBy 32 = .ok (.goto (-28), 3) := by decide +kernel
theorem dX11_keptBy_35 : decode cX11_keptBy 35 = .ok (.iload_n 2, 1) := by decide +kernel
theorem dX11_keptBy_36 : decode cX11_keptBy 36 = .ok (.ireturn, 1) := by decide +kernel
theorem dX11_room_0 : decode cX11_room 0 = .ok (.aload_n 0, 1) := by decide +kernel
theorem dX11_room_1 : decode cX11_room 1 = .ok (.getfield 254, 3) := by decide +kernel
theorem dX11_room_4 : decode cX11_room 4 = .ok (.ifCond .eq 12, 3) := by decide +kernel
theorem dX11_room_7 : decode cX11_room 7 = .ok (.iload_n 1, 1) := by decide +kernel
theorem dX11_room_8 : decode cX11_room 8 = .ok (.iconst 0, 1) := by decide +kernel
theorem dX11_room_9 : decode cX11_room 9 = .ok (.iconst 1, 1) := by decide +kernel
theorem dX11_room_10 : decode cX11_room 10 = .ok (.invokestatic 103, 3) := by decide +kernel
theorem dX11_room_13 : decode cX11_room 13 = .ok (.ifCond .ne 5, 3) := by decide +kernel
theorem dX11_room_16 : decode cX11_room 16 = .ok (.iconst (-1), 1) := by decide +kernel
theorem dX11_room_17 : decode cX11_room 17 = .ok (.ireturn, 1) := by decide +kernel
theorem dX11_room_18 : decode cX11_room 18 = .ok (.aload_n 0, 1) := by decide +kernel
theorem dX11_room_19 : decode cX11_room 19 = .ok (.invokevirtual 357, 3) := by decide +kernel
theorem dX11_room_22 : decode cX11_room 22 = .ok (.iload_n 1, 1) := by decide +kernel
theorem dX11_room_23 : decode cX11_room 23 = .ok (.ifCond .ne 7, 3) := by decide +kernel
theorem dX11_room_26 : decode cX11_room 26 = .ok (.iconst 1, 1) := by decide +kernel
theorem dX11_room_27 : decode cX11_room 27 = .ok (.goto 4, 3) := by decide +kernel
theorem dX11_room_30 : decode cX11_room 30 = .ok (.iconst (-1), 1) := by decide +kernel
theorem dX11_room_31 : decode cX11_room 31 = .ok (.istore_n 2, 1) := by decide +kernel
theorem dX11_room_32 : decode cX11_room 32 = .ok (.iconst 0, 1) := by decide +kernel
theorem dX11_room_33 : decode cX11_room 33 = .ok (.istore_n 3, 1) := by decide +kernel
theorem dX11_room_34 : decode cX11_room 34 = .ok (.aload_n 0, 1) := by decide +kernel
theorem dX11_room_35 : decode cX11_room 35 = .ok (.getfield 32, 3) := by decide +kernel
theorem dX11_room_38 : decode cX11_room 38 = .ok (.bipush 49, 2) := by decide +kernel
theorem dX11_room_40 : decode cX11_room 40 = .ok (.iaload, 1) := by decide +kernel
theorem dX11_room_41 : decode cX11_room 41 = .ok (.iload_n 3, 1) := by decide +kernel
theorem dX11_room_42 : decode cX11_room 42 = .ok (.iconst 1, 1) := by decide +kernel
theorem dX11_room_43 : decode cX11_room 43 = .ok (.iadd, 1) := by decide +kernel
theorem dX11_room_44 : decode cX11_room 44 = .ok (.iload_n 2, 1) := by decide +kernel
theorem dX11_room_45 : decode cX11_room 45 = .ok (.imul, 1) := by decide +kernel
theorem dX11_room_46 : decode cX11_room 46 = .ok (.iadd, 1) := by decide +kernel
theorem dX11_room_47 : decode cX11_room 47 = .ok (.iconst 0, 1) := by decide +kernel
theorem dX11_room_48 : decode cX11_room 48 = .ok (.sipush 999, 3) := by decide +kernel
theorem dX11_room_51 : decode cX11_room 51 = .ok (.invokestatic 103, 3) := by decide +kernel
theorem dX11_room_54 : decode cX11_room 54 = .ok (.ifCond .eq 33, 3) := by decide +kernel
theorem dX11_room_57 : decode cX11_room 57 = .ok (.aload_n 0, 1) := by decide +kernel
theorem dX11_room_58 : decode cX11_room 58 = .ok (.aload_n 0, 1) := by decide +kernel
theorem dX11_room_59 : decode cX11_room 59 = .ok (.getfield 32, 3) := by decide +kernel
theorem dX11_room_62 : decode cX11_room 62 = .ok (.bipush 49, 2) := by decide +kernel
theorem dX11_room_64 : decode cX11_room 64 = .ok (.iaload, 1) := by decide +kernel
theorem dX11_room_65 : decode cX11_room 65 = .ok (.iload_n 3, 1) := by decide +kernel
theorem dX11_room_66 : decode cX11_room 66 = .ok (.iconst 1, 1) := by decide +kernel
theorem dX11_room_67 : decode cX11_room 67 = .ok (.iadd, 1) := by decide +kernel
theorem dX11_room_68 : decode cX11_room 68 = .ok (.iload_n 2, 1) := by decide +kernel
theorem dX11_room_69 : decode cX11_room 69 = .ok (.imul, 1) := by decide +kernel
theorem dX11_room_70 : decode cX11_room 70 = .ok (.iadd, 1) := by decide +kernel
theorem dX11_room_71 : decode cX11_room 71 = .ok (.invokevirtual 447, 3) := by decide +kernel
theorem dX11_room_74 : decode cX11_room 74 = .ok (.aload_n 0, 1) := by decide +kernel
theorem dX11_room_75 : decode cX11_room 75 = .ok (.getfield 314, 3) := by decide +kernel
theorem dX11_room_78 : decode cX11_room 78 = .ok (.if_icmp .ne 9, 3) := by decide +kernel
theorem dX11_room_81 : decode cX11_room 81 = .ok (.iinc 3 1, 3) := by decide +kernel
theorem dX11_room_84 : decode cX11_room 84 = .ok (.goto (-50), 3) := by decide +kernel
theorem dX11_room_87 : decode cX11_room 87 = .ok (.iload_n 3, 1) := by decide +kernel
theorem dX11_room_88 : decode cX11_room 88 = .ok (.ireturn, 1) := by decide +kernel
theorem dX11_image_0 : decode cX11_image 0 = .ok (.aload_n 0, 1) := by decide +kernel
theorem dX11_image_1 : decode cX11_image 1 = .ok (.getfield 254, 3) := by decide +kernel
theorem dX11_image_4 : decode cX11_image 4 = .ok (.ifCond .ne 5, 3) := by decide +kernel
theorem dX11_image_7 : decode cX11_image 7 = .ok (.iconst (-1), 1) := by decide +kernel
theorem dX11_image_8 : decode cX11_image 8 = .ok (.ireturn, 1) := by decide +kernel
theorem dX11_image_9 : decode cX11_image 9 = .ok (.iconst 0, 1) := by decide +kernel
theorem dX11_image_10 : decode cX11_image 10 = .ok (.istore_n 1, 1) := by decide +kernel
theorem dX11_image_11 : decode cX11_image 11 = .ok (.iload_n 1, 1) := by decide +kernel
theorem dX11_image_12 : decode cX11_image 12 = .ok (.sipush 231, 3) := by decide +kernel
theorem dX11_image_15 : decode cX11_image 15 = .ok (.if_icmp .ge 21, 3) := by decide +kernel
theorem dX11_image_18 : decode cX11_image 18 = .ok (.aload_n 0, 1) := by decide +kernel
theorem dX11_image_19 : decode cX11_image 19 = .ok (.getfield 80, 3) := by decide +kernel
theorem dX11_image_22 : decode cX11_image 22 = .ok (.iload_n 1, 1) := by decide +kernel
theorem dX11_image_23 : decode cX11_image 23 = .ok (.aload_n 0, 1) := by decide +kernel
theorem dX11_image_24 : decode cX11_image 24 = .ok (.getfield 32, 3) := by decide +kernel
theorem dX11_image_27 : decode cX11_image 27 = .ok (.iload_n 1, 1) := by decide +kernel
theorem dX11_image_28 : decode cX11_image 28 = .ok (.iaload, 1) := by decide +kernel
theorem dX11_image_29 : decode cX11_image 29 = .ok (.iastore, 1) := by decide +kernel
theorem dX11_image_30 : decode cX11_image 30 = .ok (.iinc 1 1, 3) := by decide +kernel
theorem dX11_image_33 : decode cX11_image 33 = .ok (.goto (-22), 3) := by decide +kernel
theorem dX11_image_36 : decode cX11_image 36 = .ok (.aload_n 0, 1) := by decide +kernel
theorem dX11_image_37 : decode cX11_image 37 = .ok (.iconst 1, 1) := by decide +kernel
theorem dX11_image_38 : decode cX11_image 38 = .ok (.putfield 269, 3) := by decide +kernel
theorem dX11_image_41 : decode cX11_image 41 = .ok (.aload_n 0, 1) := by decide +kernel
theorem dX11_image_42 : decode cX11_image 42 = .ok (.invokevirtual 373, 3) := by decide +kernel
theorem dX11_image_45 : decode cX11_image 45 = .ok (.ireturn, 1) := by decide +kernel
theorem dX11_back_0 : decode cX11_back 0 = .ok (.aload_n 0, 1) := by decide +kernel
theorem dX11_back_1 : decode cX11_back 1 = .ok (.getfield 269, 3) := by decide +kernel
theorem dX11_back_4 : decode cX11_back 4 = .ok (.ifCond .ne 5, 3) := by decide +kernel
theorem dX11_back_7 : decode cX11_back 7 = .ok (.iconst (-1), 1) := by decide +kernel
theorem dX11_back_8 : decode cX11_back 8 = .ok (.ireturn, 1) := by decide +kernel
theorem dX11_back_9 : decode cX11_back 9 = .ok (.iconst 0, 1) := by decide +kernel
theorem dX11_back_10 : decode cX11_back 10 = .ok (.istore_n 1, 1) := by decide +kernel
theorem dX11_back_11 : decode cX11_back 11 = .ok (.iload_n 1, 1) := by decide +kernel
theorem dX11_back_12 : decode cX11_back 12 = .ok (.sipush 231, 3) := by decide +kernel
theorem dX11_back_15 : decode cX11_back 15 = .ok (.if_icmp .ge 21, 3) := by decide +kernel
theorem dX11_back_18 : decode cX11_back 18 = .ok (.aload_n 0, 1) := by decide +kernel
theorem dX11_back_19 : decode cX11_back 19 = .ok (.getfield 32, 3) := by decide +kernel
theorem dX11_back_22 : decode cX11_back 22 = .ok (.iload_n 1, 1) := by decide +kernel
theorem dX11_back_23 : decode cX11_back 23 = .ok (.aload_n 0, 1) := by decide +kernel
theorem dX11_back_24 : decode cX11_back 24 = .ok (.getfield 80, 3) := by decide +kernel
theorem dX11_back_27 : decode cX11_back 27 = .ok (.iload_n 1, 1) := by decide +kernel
theorem dX11_back_28 : decode cX11_back 28 = .ok (.iaload, 1) := by decide +kernel
theorem dX11_back_29 : decode cX11_back 29 = .ok (.iastore, 1) := by decide +kernel
theorem dX11_back_30 : decode cX11_back 30 = .ok (.iinc 1 1, 3) := by decide +kernel
theorem dX11_back_33 : decode cX11_back 33 = .ok (.goto (-22), 3) := by decide +kernel
theorem dX11_back_36 : decode cX11_back 36 = .ok (.aload_n 0, 1) := by decide +kernel
theorem dX11_back_37 : decode cX11_back 37 = .ok (.iconst 0, 1) := by decide +kernel
theorem dX11_back_38 : decode cX11_back 38 = .ok (.putfield 266, 3) := by decide +kernel
theorem dX11_back_41 : decode cX11_back 41 = .ok (.aload_n 0, 1) := by decide +kernel
theorem dX11_back_42 : decode cX11_back 42 = .ok (.invokevirtual 373, 3) := by decide +kernel
theorem dX11_back_45 : decode cX11_back 45 = .ok (.ireturn, 1) := by decide +kernel
theorem dX11_putAside_0 : decode cX11_putAside 0 = .ok (.iconst 0, 1) := by decide +kernel
theorem dX11_putAside_1 : decode cX11_putAside 1 = .ok (.istore_n 1, 1) := by decide +kernel
theorem dX11_putAside_2 : decode cX11_putAside 2 = .ok (.iload_n 1, 1) := by decide +kernel
theorem dX11_putAside_3 : decode cX11_putAside 3 = .ok (.bipush 50, 2) := by decide +kernel
theorem dX11_putAside_5 : decode cX11_putAside 5 = .ok (.if_icmp .ge 21, 3) := by decide +kernel
theorem dX11_putAside_8 : decode cX11_putAside 8 = .ok (.aload_n 0, 1) := by decide +kernel
theorem dX11_putAside_9 : decode cX11_putAside 9 = .ok (.getfield 83, 3) := by decide +kernel
theorem dX11_putAside_12 : decode cX11_putAside 12 = .ok (.iload_n 1, 1) := by decide +kernel
theorem dX11_putAside_13 : decode cX11_putAside 13 = .ok (.aload_n 0, 1) := by decide +kernel
theorem dX11_putAside_14 : decode cX11_putAside 14 = .ok (.getfield 32, 3) := by decide +kernel
theorem dX11_putAside_17 : decode cX11_putAside 17 = .ok (.iload_n 1, 1) := by decide +kernel
theorem dX11_putAside_18 : decode cX11_putAside 18 = .ok (.iaload, 1) := by decide +kernel
theorem dX11_putAside_19 : decode cX11_putAside 19 = .ok (.iastore, 1) := by decide +kernel
theorem dX11_putAside_20 : decode cX11_putAside 20 = .ok (.iinc 1 1, 3) := by decide +kernel
theorem dX11_putAside_23 : decode cX11_putAside 23 = .ok (.goto (-21), 3) := by decide +kernel
theorem dX11_putAside_26 : decode cX11_putAside 26 = .ok (.return_, 1) := by decide +kernel
theorem dX11_bringBack_0 : decode cX11_bringBack 0 = .ok (.iconst 0, 1) := by decide +kernel
theorem dX11_bringBack_1 : decode cX11_bringBack 1 = .ok (.istore_n 1, 1) := by decide +kernel
theorem dX11_bringBack_2 : decode cX11_bringBack 2 = .ok (.iload_n 1, 1) := by decide +kernel
theorem dX11_bringBack_3 : decode cX11_bringBack 3 = .ok (.bipush 50, 2) := by decide +kernel
theorem dX11_bringBack_5 : decode cX11_bringBack 5 = .ok (.if_icmp .ge 21, 3) := by decide +kernel
theorem dX11_bringBack_8 : decode cX11_bringBack 8 = .ok (.aload_n 0, 1) := by decide +kernel
theorem dX11_bringBack_9 : decode cX11_bringBack 9 = .ok (.getfield 32, 3) := by decide +kernel
theorem dX11_bringBack_12 : decode cX11_bringBack 12 = .ok (.iload_n 1, 1) := by decide +kernel
theorem dX11_bringBack_13 : decode cX11_bringBack 13 = .ok (.aload_n 0, 1) := by decide +kernel
theorem dX11_bringBack_14 : decode cX11_bringBack 14 = .ok (.getfield 83, 3) := by decide +kernel
theorem dX11_bringBack_17 : decode cX11_bringBack 17 = .ok (.iload_n 1, 1) := by decide +kernel
theorem dX11_bringBack_18 : decode cX11_bringBack 18 = .ok (.iaload, 1) := by decide +kernel
theorem dX11_bringBack_19 : decode cX11_bringBack 19 = .ok (.iastore, 1) := by decide +kernel
theorem dX11_bringBack_20 : decode cX11_bringBack 20 = .ok (.iinc 1 1, 3) := by decide +kernel
theorem dX11_bringBack_23 : decode cX11_bringBack 23 = .ok (.goto (-21), 3) := by decide +kernel
theorem dX11_bringBack_26 : decode cX11_bringBack 26 = .ok (.return_, 1) := by decide +kernel
theorem dX11_unlike_0 : decode cX11_unlike 0 = .ok (.aload_n 0, 1) := by decide +kernel
theorem dX11_unlike_1 : decode cX11_unlike 1 = .ok (.getfield 269, 3) := by decide +kernel
theorem dX11_unlike_4 : decode cX11_unlike 4 = .ok (.ifCond .ne 5, 3) := by decide +kernel
theorem dX11_unlike_7 : decode cX11_unlike 7 = .ok (.iconst (-1), 1) := by decide +kernel
theorem dX11_unlike_8 : decode cX11_unlike 8 = .ok (.ireturn, 1) := by decide +kernel
theorem dX11_unlike_9 : decode cX11_unlike 9 = .ok (.aload_n 0, 1) := by decide +kernel
theorem dX11_unlike_10 : decode cX11_unlike 10 = .ok (.invokevirtual 450, 3) := by decide +kernel
theorem dX11_unlike_13 : decode cX11_unlike 13 = .ok (.iconst 0, 1) := by decide +kernel
theorem dX11_unlike_14 : decode cX11_unlike 14 = .ok (.istore_n 1, 1) := by decide +kernel
theorem dX11_unlike_15 : decode cX11_unlike 15 = .ok (.iload_n 1, 1) := by decide +kernel
theorem dX11_unlike_16 : decode cX11_unlike 16 = .ok (.bipush 50, 2) := by decide +kernel
theorem dX11_unlike_18 : decode cX11_unlike 18 = .ok (.if_icmp .ge 21, 3) := by decide +kernel
theorem dX11_unlike_21 : decode cX11_unlike 21 = .ok (.aload_n 0, 1) := by decide +kernel
theorem dX11_unlike_22 : decode cX11_unlike 22 = .ok (.getfield 32, 3) := by decide +kernel
theorem dX11_unlike_25 : decode cX11_unlike 25 = .ok (.iload_n 1, 1) := by decide +kernel
theorem dX11_unlike_26 : decode cX11_unlike 26 = .ok (.aload_n 0, 1) := by decide +kernel
theorem dX11_unlike_27 : decode cX11_unlike 27 = .ok (.getfield 80, 3) := by decide +kernel
theorem dX11_unlike_30 : decode cX11_unlike 30 = .ok (.iload_n 1, 1) := by decide +kernel
theorem dX11_unlike_31 : decode cX11_unlike 31 = .ok (.iaload, 1) := by decide +kernel
theorem dX11_unlike_32 : decode cX11_unlike 32 = .ok (.iastore, 1) := by decide +kernel
theorem dX11_unlike_33 : decode cX11_unlike 33 = .ok (.iinc 1 1, 3) := by decide +kernel
theorem dX11_unlike_36 : decode cX11_unlike 36 = .ok (.goto (-21), 3) := by decide +kernel
theorem dX11_unlike_39 : decode cX11_unlike 39 = .ok (.aload_n 0, 1) := by decide +kernel
theorem dX11_unlike_40 : decode cX11_unlike 40 = .ok (.invokevirtual 357, 3) := by decide +kernel
theorem dX11_unlike_43 : decode cX11_unlike 43 = .ok (.iconst 0, 1) := by decide +kernel
theorem dX11_unlike_44 : decode cX11_unlike 44 = .ok (.istore_n 1, 1) := by decide +kernel
theorem dX11_unlike_45 : decode cX11_unlike 45 = .ok (.iload_n 1, 1) := by decide +kernel
theorem dX11_unlike_46 : decode cX11_unlike 46 = .ok (.bipush 48, 2) := by decide +kernel
theorem dX11_unlike_48 : decode cX11_unlike 48 = .ok (.if_icmp .ge 32, 3) := by decide +kernel
theorem dX11_unlike_51 : decode cX11_unlike 51 = .ok (.aload_n 0, 1) := by decide +kernel
theorem dX11_unlike_52 : decode cX11_unlike 52 = .ok (.getfield 86, 3) := by decide +kernel
theorem dX11_unlike_55 : decode cX11_unlike 55 = .ok (.iload_n 1, 1) := by decide +kernel
theorem dX11_unlike_56 : decode cX11_unlike 56 = .ok (.iload_n 1, 1) := by decide +kernel
theorem dX11_unlike_57 : decode cX11_unlike 57 = .ok (.aload_n 0, 1) := by decide +kernel
theorem dX11_unlike_58 : decode cX11_unlike 58 = .ok (.getfield 281, 3) := by decide +kernel
theorem dX11_unlike_61 : decode cX11_unlike 61 = .ok (.if_icmp .ge 11, 3) := by decide +kernel
theorem dX11_unlike_64 : decode cX11_unlike 64 = .ok (.aload_n 0, 1) := by decide +kernel
theorem dX11_unlike_65 : decode cX11_unlike 65 = .ok (.iload_n 1, 1) := by decide +kernel
theorem dX11_unlike_66 : decode cX11_unlike 66 = .ok (.invokevirtual 344, 3) := by decide +kernel
theorem dX11_unlike_69 : decode cX11_unlike 69 = .ok (.goto 4, 3) := by decide +kernel
theorem dX11_unlike_72 : decode cX11_unlike 72 = .ok (.iconst 0, 1) := by decide +kernel
theorem dX11_unlike_73 : decode cX11_unlike 73 = .ok (.iastore, 1) := by decide +kernel
theorem dX11_unlike_74 : decode cX11_unlike 74 = .ok (.iinc 1 1, 3) := by decide +kernel
theorem dX11_unlike_77 : decode cX11_unlike 77 = .ok (.goto (-32), 3) := by decide +kernel
theorem dX11_unlike_80 : decode cX11_unlike 80 = .ok (.aload_n 0, 1) := by decide +kernel
theorem dX11_unlike_81 : decode cX11_unlike 81 = .ok (.invokevirtual 453, 3) := by decide +kernel
theorem dX11_unlike_84 : decode cX11_unlike 84 = .ok (.aload_n 0, 1) := by decide +kernel
theorem dX11_unlike_85 : decode cX11_unlike 85 = .ok (.invokevirtual 357, 3) := by decide +kernel
theorem dX11_unlike_88 : decode cX11_unlike 88 = .ok (.iconst 0, 1) := by decide +kernel
theorem dX11_unlike_89 : decode cX11_unlike 89 = .ok (.istore_n 1, 1) := by decide +kernel
theorem dX11_unlike_90 : decode cX11_unlike 90 = .ok (.iconst 0, 1) := by decide +kernel
theorem dX11_unlike_91 : decode cX11_unlike 91 = .ok (.istore_n 2, 1) := by decide +kernel
theorem dX11_unlike_92 : decode cX11_unlike 92 = .ok (.iload_n 2, 1) := by decide +kernel
theorem dX11_unlike_93 : decode cX11_unlike 93 = .ok (.bipush 48, 2) := by decide +kernel
theorem dX11_unlike_95 : decode cX11_unlike 95 = .ok (.if_icmp .ge 38, 3) := by decide +kernel
theorem dX11_unlike_98 : decode cX11_unlike 98 = .ok (.iload_n 1, 1) := by decide +kernel
theorem dX11_unlike_99 : decode cX11_unlike 99 = .ok (.aload_n 0, 1) := by decide +kernel
theorem dX11_unlike_100 : decode cX11_unlike 100 = .ok (.getfield 86, 3) := by decide +kernel
theorem dX11_unlike_103 : decode cX11_unlike 103 = .ok (.iload_n 2, 1) := by decide +kernel
theorem dX11_unlike_104 : decode cX11_unlike 104 = .ok (.iaload, 1) := by decide +kernel
theorem dX11_unlike_105 : decode cX11_unlike 105 = .ok (.iload_n 2, 1) := by decide +kernel
theorem dX11_unlike_106 : decode cX11_unlike 106 = .ok (.aload_n 0, 1) := by decide +kernel
theorem dX11_unlike_107 : decode cX11_unlike 107 = .ok (.getfield 281, 3) := by decide +kernel
theorem dX11_unlike_110 : decode cX11_unlike 110 = .ok (.if_icmp .ge 11, 3) := by decide +kernel
theorem dX11_unlike_113 : decode cX11_unlike 113 = .ok (.aload_n 0, 1) := by decide +kernel
theorem dX11_unlike_114 : decode cX11_unlike 114 = .ok (.iload_n 2, 1) := by decide +kernel
theorem dX11_unlike_115 : decode cX11_unlike 115 = .ok (.invokevirtual 344, 3) := by decide +kernel
theorem dX11_unlike_118 : decode cX11_unlike 118 = .ok (.goto 4, 3) := by decide +kernel
theorem dX11_unlike_121 : decode cX11_unlike 121 = .ok (.iconst 0, 1) := by decide +kernel
theorem dX11_unlike_122 : decode cX11_unlike 122 = .ok (.invokestatic 326, 3) := by decide +kernel
theorem dX11_unlike_125 : decode cX11_unlike 125 = .ok (.iadd, 1) := by decide +kernel
theorem dX11_unlike_126 : decode cX11_unlike 126 = .ok (.istore_n 1, 1) := by decide +kernel
theorem dX11_unlike_127 : decode cX11_unlike 127 = .ok (.iinc 2 1, 3) := by decide +kernel
theorem dX11_unlike_130 : decode cX11_unlike 130 = .ok (.goto (-38), 3) := by decide +kernel
theorem dX11_unlike_133 : decode cX11_unlike 133 = .ok (.iload_n 1, 1) := by decide +kernel
theorem dX11_unlike_134 : decode cX11_unlike 134 = .ok (.ireturn, 1) := by decide +kernel
theorem dX11_shift_0 : decode cX11_shift 0 = .ok (.aload_n 0, 1) := by decide +kernel
theorem dX11_shift_1 : decode cX11_shift 1 = .ok (.getfield 254, 3) := by decide +kernel
theorem dX11_shift_4 : decode cX11_shift 4 = .ok (.ifCond .eq 12, 3) := by decide +kernel
theorem dX11_shift_7 : decode cX11_shift 7 = .ok (.iload_n 1, 1) := by decide +kernel
theorem dX11_shift_8 : decode cX11_shift 8 = .ok (.iconst 0, 1) := by decide +kernel
theorem dX11_shift_9 : decode cX11_shift 9 = .ok (.iconst 1, 1) := by decide +kernel
theorem dX11_shift_10 : decode cX11_shift 10 = .ok (.invokestatic 103, 3) := by decide +kernel
theorem dX11_shift_13 : decode cX11_shift 13 = .ok (.ifCond .ne 6, 3) := by decide +kernel
theorem dX11_shift_16 : decode cX11_shift 16 = .ok (.ldc 240, 2) := by decide +kernel
theorem dX11_shift_18 : decode cX11_shift 18 = .ok (.ireturn, 1) := by decide +kernel
theorem dX11_shift_19 : decode cX11_shift 19 = .ok (.aload_n 0, 1) := by decide +kernel
theorem dX11_shift_20 : decode cX11_shift 20 = .ok (.invokevirtual 357, 3) := by decide +kernel
theorem dX11_shift_23 : decode cX11_shift 23 = .ok (.iconst 0, 1) := by decide +kernel
theorem dX11_shift_24 : decode cX11_shift 24 = .ok (.istore_n 2, 1) := by decide +kernel
theorem dX11_shift_25 : decode cX11_shift 25 = .ok (.iconst (-1), 1) := by decide +kernel
theorem dX11_shift_26 : decode cX11_shift 26 = .ok (.istore_n 3, 1) := by decide +kernel
theorem dX11_shift_27 : decode cX11_shift 27 = .ok (.iconst 0, 1) := by decide +kernel
theorem dX11_shift_28 : decode cX11_shift 28 = .ok (.istore 4, 2) := by decide +kernel
theorem dX11_shift_30 : decode cX11_shift 30 = .ok (.iload 4, 2) := by decide +kernel
theorem dX11_shift_32 : decode cX11_shift 32 = .ok (.bipush 18, 2) := by decide +kernel
theorem dX11_shift_34 : decode cX11_shift 34 = .ok (.if_icmp .gt 55, 3) := by decide +kernel
theorem dX11_shift_37 : decode cX11_shift 37 = .ok (.iload 4, 2) := by decide +kernel
theorem dX11_shift_39 : decode cX11_shift 39 = .ok (.iconst 2, 1) := by decide +kernel
theorem dX11_shift_40 : decode cX11_shift 40 = .ok (.irem, 1) := by decide +kernel
theorem dX11_shift_41 : decode cX11_shift 41 = .ok (.iconst 1, 1) := by decide +kernel
theorem dX11_shift_42 : decode cX11_shift 42 = .ok (.if_icmp .ne 13, 3) := by decide +kernel
theorem dX11_shift_45 : decode cX11_shift 45 = .ok (.iload 4, 2) := by decide +kernel
theorem dX11_shift_47 : decode cX11_shift 47 = .ok (.iconst 1, 1) := by decide +kernel
theorem dX11_shift_48 : decode cX11_shift 48 = .ok (.iadd, 1) := by decide +kernel
theorem dX11_shift_49 : decode cX11_shift 49 = .ok (.ineg, 1) := by decide +kernel
theorem dX11_shift_50 : decode cX11_shift 50 = .ok (.iconst 2, 1) := by decide +kernel
theorem dX11_shift_51 : decode cX11_shift 51 = .ok (.idiv, 1) := by decide +kernel
theorem dX11_shift_52 : decode cX11_shift 52 = .ok (.goto 7, 3) := by decide +kernel
theorem dX11_shift_55 : decode cX11_shift 55 = .ok (.iload 4, 2) := by decide +kernel
theorem dX11_shift_57 : decode cX11_shift 57 = .ok (.iconst 2, 1) := by decide +kernel
theorem dX11_shift_58 : decode cX11_shift 58 = .ok (.idiv, 1) := by decide +kernel
theorem dX11_shift_59 : decode cX11_shift 59 = .ok (.istore 5, 2) := by decide +kernel
theorem dX11_shift_61 : decode cX11_shift 61 = .ok (.aload_n 0, 1) := by decide +kernel
theorem dX11_shift_62 : decode cX11_shift 62 = .ok (.iload 5, 2) := by decide +kernel
theorem dX11_shift_64 : decode cX11_shift 64 = .ok (.invokevirtual 317, 3) := by decide +kernel
theorem dX11_shift_67 : decode cX11_shift 67 = .ok (.aload_n 0, 1) := by decide +kernel
theorem dX11_shift_68 : decode cX11_shift 68 = .ok (.getfield 323, 3) := by decide +kernel
theorem dX11_shift_71 : decode cX11_shift 71 = .ok (.iload_n 3, 1) := by decide +kernel
theorem dX11_shift_72 : decode cX11_shift 72 = .ok (.if_icmp .le 11, 3) := by decide +kernel
theorem dX11_shift_75 : decode cX11_shift 75 = .ok (.aload_n 0, 1) := by decide +kernel
theorem dX11_shift_76 : decode cX11_shift 76 = .ok (.getfield 323, 3) := by decide +kernel
theorem dX11_shift_79 : decode cX11_shift 79 = .ok (.istore_n 3, 1) := by decide +kernel
theorem dX11_shift_80 : decode cX11_shift 80 = .ok (.iload 5, 2) := by decide +kernel
theorem dX11_shift_82 : decode cX11_shift 82 = .ok (.istore_n 2, 1) := by decide +kernel
theorem dX11_shift_83 : decode cX11_shift 83 = .ok (.iinc 4 1, 3) := by decide +kernel
theorem dX11_shift_86 : decode cX11_shift 86 = .ok (.goto (-56), 3) := by decide +kernel
theorem dX11_shift_89 : decode cX11_shift 89 = .ok (.iload_n 1, 1) := by decide +kernel
theorem dX11_shift_90 : decode cX11_shift 90 = .ok (.ifCond .ne 7, 3) := by decide +kernel
theorem dX11_shift_93 : decode cX11_shift 93 = .ok (.iload_n 2, 1) := by decide +kernel
theorem dX11_shift_94 : decode cX11_shift 94 = .ok (.goto 4, 3) := by decide +kernel
theorem dX11_shift_97 : decode cX11_shift 97 = .ok (.iload_n 3, 1) := by decide +kernel
theorem dX11_shift_98 : decode cX11_shift 98 = .ok (.ireturn, 1) := by decide +kernel
theorem dX11_matched_0 : decode cX11_matched 0 = .ok (.aload_n 0, 1) := by decide +kernel
theorem dX11_matched_1 : decode cX11_matched 1 = .ok (.invokevirtual 357, 3) := by decide +kernel
theorem dX11_matched_4 : decode cX11_matched 4 = .ok (.iconst 0, 1) := by decide +kernel
theorem dX11_matched_5 : decode cX11_matched 5 = .ok (.istore_n 1, 1) := by decide +kernel
theorem dX11_matched_6 : decode cX11_matched 6 = .ok (.iconst 0, 1) := by decide +kernel
theorem dX11_matched_7 : decode cX11_matched 7 = .ok (.istore_n 2, 1) := by decide +kernel
theorem dX11_matched_8 : decode cX11_matched 8 = .ok (.iload_n 2, 1) := by decide +kernel
theorem dX11_matched_9 : decode cX11_matched 9 = .ok (.aload_n 0, 1) := by decide +kernel
theorem dX11_matched_10 : decode cX11_matched 10 = .ok (.getfield 263, 3) := by decide +kernel
theorem dX11_matched_13 : decode cX11_matched 13 = .ok (.if_icmp .ge 29, 3) := by decide +kernel
theorem dX11_matched_16 : decode cX11_matched 16 = .ok (.iload_n 1, 1) := by decide +kernel
theorem dX11_matched_17 : decode cX11_matched 17 = .ok (.aload_n 0, 1) := by decide +kernel
theorem dX11_matched_18 : decode cX11_matched 18 = .ok (.getfield 71, 3) := by decide +kernel
theorem dX11_matched_21 : decode cX11_matched 21 = .ok (.iload_n 2, 1) := by decide +kernel
theorem dX11_matched_22 : decode cX11_matched 22 = .ok (.iaload, 1) := by decide +kernel
theorem dX11_matched_23 : decode cX11_matched 23 = .ok (.iconst (-1), 1) := by decide +kernel
theorem dX11_matched_24 : decode cX11_matched 24 = .ok (.if_icmp .eq 9, 3) := by decide +kernel
theorem dX11_matched_27 : decode cX11_matched 27 = .ok (.iconst 1, 1) := by decide +kernel
theorem dX11_matched_28 : decode cX11_matched 28 = .ok (.iload_n 2, 1) := by decide +kernel
theorem dX11_matched_29 : decode cX11_matched 29 = .ok (.ishl, 1) := by decide +kernel
theorem dX11_matched_30 : decode cX11_matched 30 = .ok (.goto 4, 3) := by decide +kernel
theorem dX11_matched_33 : decode cX11_matched 33 = .ok (.iconst 0, 1) := by decide +kernel
theorem dX11_matched_34 : decode cX11_matched 34 = .ok (.ior, 1) := by decide +kernel
theorem dX11_matched_35 : decode cX11_matched 35 = .ok (.istore_n 1, 1) := by decide +kernel
theorem dX11_matched_36 : decode cX11_matched 36 = .ok (.iinc 2 1, 3) := by decide +kernel
theorem dX11_matched_39 : decode cX11_matched 39 = .ok (.goto (-31), 3) := by decide +kernel
theorem dX11_matched_42 : decode cX11_matched 42 = .ok (.iload_n 1, 1) := by decide +kernel
theorem dX11_matched_43 : decode cX11_matched 43 = .ok (.ireturn, 1) := by decide +kernel
theorem dX11_missed_0 : decode cX11_missed 0 = .ok (.aload_n 0, 1) := by decide +kernel
theorem dX11_missed_1 : decode cX11_missed 1 = .ok (.getfield 254, 3) := by decide +kernel
theorem dX11_missed_4 : decode cX11_missed 4 = .ok (.ifCond .eq 21, 3) := by decide +kernel
theorem dX11_missed_7 : decode cX11_missed 7 = .ok (.iconst 1, 1) := by decide +kernel
theorem dX11_missed_8 : decode cX11_missed 8 = .ok (.aload_n 0, 1) := by decide +kernel
theorem dX11_missed_9 : decode cX11_missed 9 = .ok (.getfield 263, 3) := by decide +kernel
theorem dX11_missed_12 : decode cX11_missed 12 = .ok (.ishl, 1) := by decide +kernel
theorem dX11_missed_13 : decode cX11_missed 13 = .ok (.iconst 1, 1) := by decide +kernel
theorem dX11_missed_14 : decode cX11_missed 14 = .ok (.isub, 1) := by decide +kernel
theorem dX11_missed_15 : decode cX11_missed 15 = .ok (.aload_n 0, 1) := by decide +kernel
theorem dX11_missed_16 : decode cX11_missed 16 = .ok (.invokevirtual 456, 3) := by decide +kernel
theorem dX11_missed_19 : decode cX11_missed 19 = .ok (.iconst (-1), 1) := by decide +kernel
theorem dX11_missed_20 : decode cX11_missed 20 = .ok (.ixor, 1) := by decide +kernel
theorem dX11_missed_21 : decode cX11_missed 21 = .ok (.iand, 1) := by decide +kernel
theorem dX11_missed_22 : decode cX11_missed 22 = .ok (.goto 4, 3) := by decide +kernel
theorem dX11_missed_25 : decode cX11_missed 25 = .ok (.iconst (-1), 1) := by decide +kernel
theorem dX11_missed_26 : decode cX11_missed 26 = .ok (.ireturn, 1) := by decide +kernel
theorem dX11_would_0 : decode cX11_would 0 = .ok (.aload_n 0, 1) := by decide +kernel
theorem dX11_would_1 : decode cX11_would 1 = .ok (.bipush 7, 2) := by decide +kernel
theorem dX11_would_3 : decode cX11_would 3 = .ok (.iload_n 1, 1) := by decide +kernel
theorem dX11_would_4 : decode cX11_would 4 = .ok (.iload_n 2, 1) := by decide +kernel
theorem dX11_would_5 : decode cX11_would 5 = .ok (.invokevirtual 407, 3) := by decide +kernel
theorem dX11_would_8 : decode cX11_would 8 = .ok (.iconst (-1), 1) := by decide +kernel
theorem dX11_would_9 : decode cX11_would 9 = .ok (.if_icmp .ne 12, 3) := by decide +kernel
theorem dX11_would_12 : decode cX11_would 12 = .ok (.iload_n 3, 1) := by decide +kernel
theorem dX11_would_13 : decode cX11_would 13 = .ok (.iconst 0, 1) := by decide +kernel
theorem dX11_would_14 : decode cX11_would 14 = .ok (.iconst 2, 1) := by decide +kernel
theorem dX11_would_15 : decode cX11_would 15 = .ok (.invokestatic 103, 3) := by decide +kernel
theorem dX11_would_18 : decode cX11_would 18 = .ok (.ifCond .ne 5, 3) := by decide +kernel
theorem dX11_would_21 : decode cX11_would 21 = .ok (.iconst (-1), 1) := by decide +kernel
theorem dX11_would_22 : decode cX11_would 22 = .ok (.ireturn, 1) := by decide +kernel
theorem dX11_would_23 : decode cX11_would 23 = .ok (.aload_n 0, 1) := by decide +kernel
theorem dX11_would_24 : decode cX11_would 24 = .ok (.iload_n 1, 1) := by decide +kernel
theorem dX11_would_25 : decode cX11_would 25 = .ok (.iload_n 2, 1) := by decide +kernel
theorem dX11_would_26 : decode cX11_would 26 = .ok (.invokevirtual 391, 3) := by decide +kernel
theorem dX11_would_29 : decode cX11_would 29 = .ok (.istore 4, 2) := by decide +kernel
theorem dX11_would_31 : decode cX11_would 31 = .ok (.aload_n 0, 1) := by decide +kernel
theorem dX11_would_32 : decode cX11_would 32 = .ok (.invokevirtual 357, 3) := by decide +kernel
theorem dX11_would_35 : decode cX11_would 35 = .ok (.iload_n 3, 1) := by decide +kernel
theorem dX11_would_36 : decode cX11_would 36 = .ok (.ifCond .ne 10, 3) := by decide +kernel
theorem dX11_would_39 : decode cX11_would 39 = .ok (.aload_n 0, 1) := by decide +kernel
theorem dX11_would_40 : decode cX11_would 40 = .ok (.getfield 314, 3) := by decide +kernel
theorem dX11_would_43 : decode cX11_would 43 = .ok (.goto 20, 3) := by decide +kernel
theorem dX11_would_46 : decode cX11_would 46 = .ok (.iload_n 3, 1) := by decide +kernel
theorem dX11_would_47 : decode cX11_would 47 = .ok (.iconst 1, 1) := by decide +kernel
theorem dX11_would_48 : decode cX11_would 48 = .ok (.if_icmp .ne 11, 3) := by decide +kernel
theorem dX11_would_51 : decode cX11_would 51 = .ok (.aload_n 0, 1) := by decide +kernel
theorem dX11_would_52 : decode cX11_would 52 = .ok (.iconst 0, 1) := by decide +kernel
theorem dX11_would_53 : decode cX11_would 53 = .ok (.invokevirtual 320, 3) := by decide +kernel
theorem dX11_would_56 : decode cX11_would 56 = .ok (.goto 7, 3) := by decide +kernel
theorem dX11_would_59 : decode cX11_would 59 = .ok (.aload_n 0, 1) := by decide +kernel
theorem dX11_would_60 : decode cX11_would 60 = .ok (.getfield 281, 3) := by decide +kernel
theorem dX11_would_63 : decode cX11_would 63 = .ok (.istore 5, 2) := by decide +kernel
theorem dX11_would_65 : decode cX11_would 65 = .ok (.aload_n 0, 1) := by decide +kernel
theorem dX11_would_66 : decode cX11_would 66 = .ok (.getfield 32, 3) := by decide +kernel
theorem dX11_would_69 : decode cX11_would 69 = .ok (.iload_n 1, 1) := by decide +kernel
theorem dX11_would_70 : decode cX11_would 70 = .ok (.iload 4, 2) := by decide +kernel
theorem dX11_would_72 : decode cX11_would 72 = .ok (.iastore, 1) := by decide +kernel
theorem dX11_would_73 : decode cX11_would 73 = .ok (.iload 5, 2) := by decide +kernel
theorem dX11_would_75 : decode cX11_would 75 = .ok (.ireturn, 1) := by decide +kernel
theorem dX11_tallestOf_0 : decode cX11_tallestOf 0 = .ok (.iconst (-1), 1) := by decide +kernel
theorem dX11_tallestOf_1 : decode cX11_tallestOf 1 = .ok (.istore_n 2, 1) := by decide +kernel
theorem dX11_tallestOf_2 : decode cX11_tallestOf 2 = .ok (.iconst 0, 1) := by decide +kernel
theorem dX11_tallestOf_3 : decode cX11_tallestOf 3 = .ok (.istore_n 3, 1) := by decide +kernel
theorem dX11_tallestOf_4 : decode cX11_tallestOf 4 = .ok (.iload_n 3, 1) := by decide +kernel
theorem dX11_tallestOf_5 : decode cX11_tallestOf 5 = .ok (.aload_n 0, 1) := by decide +kernel
theorem dX11_tallestOf_6 : decode cX11_tallestOf 6 = .ok (.getfield 281, 3) := by decide +kernel
theorem dX11_tallestOf_9 : decode cX11_tallestOf 9 = .ok (.if_icmp .ge 71, 3) := by decide +kernel
theorem dX11_tallestOf_12 : decode cX11_tallestOf 12 = .ok (.iload_n 1, 1) := by decide +kernel
theorem dX11_tallestOf_13 : decode cX11_tallestOf 13 = .ok (.iconst (-1), 1) := by decide +kernel
theorem dX11_tallestOf_14 : decode cX11_tallestOf 14 = .ok (.if_icmp .ne 15, 3) := by decide +kernel
theorem dX11_tallestOf_17 : decode cX11_tallestOf 17 = .ok (.iload_n 3, 1) := by decide +kernel
theorem dX11_tallestOf_18 : decode cX11_tallestOf 18 = .ok (.ifCond .le 7, 3) := by decide +kernel
theorem dX11_tallestOf_21 : decode cX11_tallestOf 21 = .ok (.iconst 1, 1) := by decide +kernel
theorem dX11_tallestOf_22 : decode cX11_tallestOf 22 = .ok (.goto 21, 3) := by decide +kernel
theorem dX11_tallestOf_25 : decode cX11_tallestOf 25 = .ok (.iconst 0, 1) := by decide +kernel
theorem dX11_tallestOf_26 : decode cX11_tallestOf 26 = .ok (.goto 17, 3) := by decide +kernel
theorem dX11_tallestOf_29 : decode cX11_tallestOf 29 = .ok (.aload_n 0, 1) := by decide +kernel
theorem dX11_tallestOf_30 : decode cX11_tallestOf 30 = .ok (.iload_n 3, 1) := by decide +kernel
theorem dX11_tallestOf_31 : decode cX11_tallestOf 31 = .ok (.invokevirtual 438, 3) := by decide +kernel
theorem dX11_tallestOf_34 : decode cX11_tallestOf 34 = .ok (.iload_n 1, 1) := by decide +kernel
theorem dX11_tallestOf_35 : decode cX11_tallestOf 35 = .ok (.if_icmp .ne 7, 3) := by decide +kernel
theorem dX11_tallestOf_38 : decode cX11_tallestOf 38 = .ok (.iconst 1, 1) := by decide +kernel
theorem dX11_tallestOf_39 : decode cX11_tallestOf 39 = .ok (.goto 4, 3) := by decide +kernel
theorem dX11_tallestOf_42 : decode cX11_tallestOf 42 = .ok (.iconst 0, 1) := by decide +kernel
theorem dX11_tallestOf_43 : decode cX11_tallestOf 43 = .ok (.istore 4, 2) := by decide +kernel
theorem dX11_tallestOf_45 : decode cX11_tallestOf 45 = .ok (.iload 4, 2) := by decide +kernel
theorem dX11_tallestOf_47 : decode cX11_tallestOf 47 = .ok (.ifCond .eq 25, 3) := by decide +kernel
theorem dX11_tallestOf_50 : decode cX11_tallestOf 50 = .ok (.iload_n 2, 1) := by decide +kernel
theorem dX11_tallestOf_51 : decode cX11_tallestOf 51 = .ok (.iconst (-1), 1) := by decide +kernel
theorem dX11_tallestOf_52 : decode cX11_tallestOf 52 = .ok (.if_icmp .eq 16, 3) := by decide +kernel
theorem dX11_tallestOf_55 : decode cX11_tallestOf 55 = .ok (.aload_n 0, 1) := by decide +kernel
theorem dX11_tallestOf_56 : decode cX11_tallestOf 56 = .ok (.iload_n 3, 1) := by decide +kernel
theorem dX11_tallestOf_57 : decode cX11_tallestOf 57 = .ok (.invokevirtual 341, 3) := by decide +kernel
theorem dX11_tallestOf_60 : decode cX11_tallestOf 60 = .ok (.aload_n 0, 1) := by decide +kernel
theorem dX11_tallestOf_61 : decode cX11_tallestOf 61 = .ok (.iload_n 2, 1) := by decide +kernel
theorem dX11_tallestOf_62 : decode cX11_tallestOf 62 = .ok (.invokevirtual 341, 3) := by decide +kernel
theorem dX11_tallestOf_65 : decode cX11_tallestOf 65 = .ok (.if_icmp .le 7, 3) := by decide +kernel
theorem dX11_tallestOf_68 : decode cX11_tallestOf 68 = .ok (.iload_n 3, 1) := by decide +kernel
theorem dX11_tallestOf_69 : decode cX11_tallestOf 69 = .ok (.goto 4, 3) := by decide +kernel
theorem dX11_tallestOf_72 : decode cX11_tallestOf 72 = .ok (.iload_n 2, 1) := by decide +kernel
theorem dX11_tallestOf_73 : decode cX11_tallestOf 73 = .ok (.istore_n 2, 1) := by decide +kernel
theorem dX11_tallestOf_74 : decode cX11_tallestOf 74 = .ok (.iinc 3 1, 3) := by decide +kernel
theorem dX11_tallestOf_77 : decode cX11_tallestOf 77 = .ok (.goto (-73), 3) := by decide +kernel
theorem dX11_tallestOf_80 : decode cX11_tallestOf 80 = .ok (.iload_n 2, 1) := by decide +kernel
theorem dX11_tallestOf_81 : decode cX11_tallestOf 81 = .ok (.ireturn, 1) := by decide +kernel
theorem dX11_solo_0 : decode cX11_solo 0 = .ok (.aload_n 0, 1) := by decide +kernel
theorem dX11_solo_1 : decode cX11_solo 1 = .ok (.getfield 254, 3) := by decide +kernel
theorem dX11_solo_4 : decode cX11_solo 4 = .ok (.ifCond .ne 5, 3) := by decide +kernel
theorem dX11_solo_7 : decode cX11_solo 7 = .ok (.iconst (-1), 1) := by decide +kernel
theorem dX11_solo_8 : decode cX11_solo 8 = .ok (.ireturn, 1) := by decide +kernel
theorem dX11_solo_9 : decode cX11_solo 9 = .ok (.aload_n 0, 1) := by decide +kernel
theorem dX11_solo_10 : decode cX11_solo 10 = .ok (.invokevirtual 357, 3) := by decide +kernel
theorem dX11_solo_13 : decode cX11_solo 13 = .ok (.aload_n 0, 1) := by decide +kernel
theorem dX11_solo_14 : decode cX11_solo 14 = .ok (.iconst (-1), 1) := by decide +kernel
theorem dX11_solo_15 : decode cX11_solo 15 = .ok (.invokevirtual 459, 3) := by decide +kernel
theorem dX11_solo_18 : decode cX11_solo 18 = .ok (.ireturn, 1) := by decide +kernel
theorem dX11_tallest_0 : decode cX11_tallest 0 = .ok (.aload_n 0, 1) := by decide +kernel
theorem dX11_tallest_1 : decode cX11_tallest 1 = .ok (.getfield 254, 3) := by decide +kernel
theorem dX11_tallest_4 : decode cX11_tallest 4 = .ok (.ifCond .eq 7, 3) := by decide +kernel
theorem dX11_tallest_7 : decode cX11_tallest 7 = .ok (.iload_n 1, 1) := by decide +kernel
theorem dX11_tallest_8 : decode cX11_tallest 8 = .ok (.ifCond .ge 5, 3) := by decide +kernel
theorem dX11_tallest_11 : decode cX11_tallest 11 = .ok (.iconst (-1), 1) := by decide +kernel
theorem dX11_tallest_12 : decode cX11_tallest 12 = .ok (.ireturn, 1) := by decide +kernel
theorem dX11_tallest_13 : decode cX11_tallest 13 = .ok (.aload_n 0, 1) := by decide +kernel
theorem dX11_tallest_14 : decode cX11_tallest 14 = .ok (.invokevirtual 357, 3) := by decide +kernel
theorem dX11_tallest_17 : decode cX11_tallest 17 = .ok (.aload_n 0, 1) := by decide +kernel
theorem dX11_tallest_18 : decode cX11_tallest 18 = .ok (.iload_n 1, 1) := by decide +kernel
theorem dX11_tallest_19 : decode cX11_tallest 19 = .ok (.invokevirtual 459, 3) := by decide +kernel
theorem dX11_tallest_22 : decode cX11_tallest 22 = .ok (.ireturn, 1) := by decide +kernel
theorem dX11_change_0 : decode cX11_change 0 = .ok (.aload_n 0, 1) := by decide +kernel
theorem dX11_change_1 : decode cX11_change 1 = .ok (.getfield 254, 3) := by decide +kernel
theorem dX11_change_4 : decode cX11_change 4 = .ok (.ifCond .eq 12, 3) := by decide +kernel
theorem dX11_change_7 : decode cX11_change 7 = .ok (.iload_n 1, 1) := by decide +kernel
theorem dX11_change_8 : decode cX11_change 8 = .ok (.iconst 0, 1) := by decide +kernel
theorem dX11_change_9 : decode cX11_change 9 = .ok (.iconst 1, 1) := by decide +kernel
theorem dX11_change_10 : decode cX11_change 10 = .ok (.invokestatic 103, 3) := by decide +kernel
theorem dX11_change_13 : decode cX11_change 13 = .ok (.ifCond .ne 5, 3) := by decide +kernel
theorem dX11_change_16 : decode cX11_change 16 = .ok (.iconst (-1), 1) := by decide +kernel
theorem dX11_change_17 : decode cX11_change 17 = .ok (.ireturn, 1) := by decide +kernel
theorem dX11_change_18 : decode cX11_change 18 = .ok (.iconst (-1), 1) := by decide +kernel
theorem dX11_change_19 : decode cX11_change 19 = .ok (.istore_n 2, 1) := by decide +kernel
theorem dX11_change_20 : decode cX11_change 20 = .ok (.iconst 0, 1) := by decide +kernel
theorem dX11_change_21 : decode cX11_change 21 = .ok (.istore_n 3, 1) := by decide +kernel
theorem dX11_change_22 : decode cX11_change 22 = .ok (.iconst 0, 1) := by decide +kernel
theorem dX11_change_23 : decode cX11_change 23 = .ok (.istore 4, 2) := by decide +kernel
theorem dX11_change_25 : decode cX11_change 25 = .ok (.iload 4, 2) := by decide +kernel
theorem dX11_change_27 : decode cX11_change 27 = .ok (.aload_n 0, 1) := by decide +kernel
theorem dX11_change_28 : decode cX11_change 28 = .ok (.invokevirtual 257, 3) := by decide +kernel
theorem dX11_change_31 : decode cX11_change 31 = .ok (.if_icmp .ge 36, 3) := by decide +kernel
theorem dX11_change_34 : decode cX11_change 34 = .ok (.aload_n 0, 1) := by decide +kernel
theorem dX11_change_35 : decode cX11_change 35 = .ok (.iload 4, 2) := by decide +kernel
theorem dX11_change_37 : decode cX11_change 37 = .ok (.iconst 0, 1) := by decide +kernel
theorem dX11_change_38 : decode cX11_change 38 = .ok (.iconst 0, 1) := by decide +kernel
theorem dX11_change_39 : decode cX11_change 39 = .ok (.invokevirtual 462, 3) := by decide +kernel
theorem dX11_change_42 : decode cX11_change 42 = .ok (.istore 5, 2) := by decide +kernel
theorem dX11_change_44 : decode cX11_change 44 = .ok (.iload_n 2, 1) := by decide +kernel
theorem dX11_change_45 : decode cX11_change 45 = .ok (.iconst (-1), 1) := by decide +kernel
theorem dX11_change_46 : decode cX11_change 46 = .ok (.if_icmp .eq 9, 3) := by decide +kernel
theorem dX11_change_49 : decode cX11_change 49 = .ok (.iload 5, 2) := by decide +kernel
theorem dX11_change_51 : decode cX11_change 51 = .ok (.iload_n 3, 1) := by decide +kernel
theorem dX11_change_52 : decode cX11_change 52 = .ok (.if_icmp .ge 9, 3) := by decide +kernel
theorem dX11_change_55 : decode cX11_change 55 = .ok (.iload 4, 2) := by decide +kernel
theorem dX11_change_57 : decode cX11_change 57 = .ok (.istore_n 2, 1) := by decide +kernel
theorem dX11_change_58 : decode cX11_change 58 = .ok (.iload 5, 2) := by decide +kernel
theorem dX11_change_60 : decode cX11_change 60 = .ok (.istore_n 3, 1) := by decide +kernel
theorem dX11_change_61 : decode cX11_change 61 = .ok (.iinc 4 1, 3) := by decide +kernel
theorem dX11_change_64 : decode cX11_change 64 = .ok (.goto (-39), 3) := by decide +kernel
theorem dX11_change_67 : decode cX11_change 67 = .ok (.iload_n 1, 1) := by decide +kernel
theorem dX11_change_68 : decode cX11_change 68 = .ok (.ifCond .ne 7, 3) := by decide +kernel
theorem dX11_change_71 : decode cX11_change 71 = .ok (.iload_n 2, 1) := by decide +kernel
theorem dX11_change_72 : decode cX11_change 72 = .ok (.goto 4, 3) := by decide +kernel
theorem dX11_change_75 : decode cX11_change 75 = .ok (.iload_n 3, 1) := by decide +kernel
theorem dX11_change_76 : decode cX11_change 76 = .ok (.ireturn, 1) := by decide +kernel
theorem dX11_spells_0 : decode cX11_spells 0 = .ok (.aload_n 0, 1) := by decide +kernel
theorem dX11_spells_1 : decode cX11_spells 1 = .ok (.getfield 89, 3) := by decide +kernel
theorem dX11_spells_4 : decode cX11_spells 4 = .ok (.aload_n 0, 1) := by decide +kernel
theorem dX11_spells_5 : decode cX11_spells 5 = .ok (.getfield 465, 3) := by decide +kernel
theorem dX11_spells_8 : decode cX11_spells 8 = .ok (.iload_n 1, 1) := by decide +kernel
theorem dX11_spells_9 : decode cX11_spells 9 = .ok (.iastore, 1) := by decide +kernel
theorem dX11_spells_10 : decode cX11_spells 10 = .ok (.aload_n 0, 1) := by decide +kernel
theorem dX11_spells_11 : decode cX11_spells 11 = .ok (.dup, 1) := by decide +kernel
theorem dX11_spells_12 : decode cX11_spells 12 = .ok (.getfield 465, 3) := by decide +kernel
theorem dX11_spells_15 : decode cX11_spells 15 = .ok (.iconst 1, 1) := by decide +kernel
theorem dX11_spells_16 : decode cX11_spells 16 = .ok (.iadd, 1) := by decide +kernel
theorem dX11_spells_17 : decode cX11_spells 17 = .ok (.putfield 465, 3) := by decide +kernel
theorem dX11_spells_20 : decode cX11_spells 20 = .ok (.return_, 1) := by decide +kernel
theorem dX11_spellsNumber_0 : decode cX11_spellsNumber 0 = .ok (.iconst 1, 1) := by decide +kernel
theorem dX11_spellsNumber_1 : decode cX11_spellsNumber 1 = .ok (.istore_n 2, 1) := by decide +kernel
theorem dX11_spellsNumber_2 : decode cX11_spellsNumber 2 = .ok (.iload_n 1, 1) := by decide +kernel
theorem dX11_spellsNumber_3 : decode cX11_spellsNumber 3 = .ok (.iload_n 2, 1) := by decide +kernel
theorem dX11_spellsNumber_4 : decode cX11_spellsNumber 4 = .ok (.idiv, 1) := by decide +kernel
theorem dX11_spellsNumber_5 : decode cX11_spellsNumber 5 = .ok (.bipush 9, 2) := by decide +kernel
theorem dX11_spellsNumber_7 : decode cX11_spellsNumber 7 = .ok (.if_icmp .le 11, 3) := by decide +kernel
theorem dX11_spellsNumber_10 : decode cX11_spellsNumber 10 = .ok (.iload_n 2, 1) := by decide +kernel
theorem dX11_spellsNumber_11 : decode cX11_spellsNumber 11 = .ok (.bipush 10, 2) := by decide +kernel
theorem dX11_spellsNumber_13 : decode cX11_spellsNumber 13 = .ok (.imul, 1) := by decide +kernel
theorem dX11_spellsNumber_14 : decode cX11_spellsNumber 14 = .ok (.istore_n 2, 1) := by decide +kernel
theorem dX11_spellsNumber_15 : decode cX11_spellsNumber 15 = .ok (.goto (-13), 3) := by decide +kernel
theorem dX11_spellsNumber_18 : decode cX11_spellsNumber 18 = .ok (.iload_n 2, 1) := by decide +kernel
theorem dX11_spellsNumber_19 : decode cX11_spellsNumber 19 = .ok (.ifCond .le 24, 3) := by decide +kernel
theorem dX11_spellsNumber_22 : decode cX11_spellsNumber 22 = .ok (.aload_n 0, 1) := by decide +kernel
theorem dX11_spellsNumber_23 : decode cX11_spellsNumber 23 = .ok (.bipush 48, 2) := by decide +kernel
theorem dX11_spellsNumber_25 : decode cX11_spellsNumber 25 = .ok (.iload_n 1, 1) := by decide +kernel
theorem dX11_spellsNumber_26 : decode cX11_spellsNumber 26 = .ok (.iload_n 2, 1) := by decide +kernel
theorem dX11_spellsNumber_27 : decode cX11_spellsNumber 27 = .ok (.idiv, 1) := by decide +kernel
theorem dX11_spellsNumber_28 : decode cX11_spellsNumber 28 = .ok (.bipush 10, 2) := by decide +kernel
theorem dX11_spellsNumber_30 : decode cX11_spellsNumber 30 = .ok (.irem, 1) := by decide +kernel
theorem dX11_spellsNumber_31 : decode cX11_spellsNumber 31 = .ok (.iadd, 1) := by decide +kernel
theorem dX11_spellsNumber_32 : decode cX11_spellsNumber 32 = .ok (.invokevirtual 468, 3) := by decide +kernel
theorem dX11_spellsNumber_35 : decode cX11_spellsNumber 35 = .ok (.iload_n 2, 1) := by decide +kernel
theorem dX11_spellsNumber_36 : decode cX11_spellsNumber 36 = .ok (.bipush 10, 2) := by decide +kernel
theorem dX11_spellsNumber_38 : decode cX11_spellsNumber 38 = .ok (.idiv, 1) := by decide +kernel
theorem dX11_spellsNumber_39 : decode cX11_spellsNumber 39 = .ok (.istore_n 2, 1) := by decide +kernel
theorem dX11_spellsNumber_40 : decode cX11_spellsNumber 40 = .ok (.goto (-22), 3) := by decide +kernel
theorem dX11_spellsNumber_43 : decode cX11_spellsNumber 43 = .ok (.return_, 1) := by decide +kernel
theorem dX11_spellsName_0 : decode cX11_spellsName 0 = .ok (.iload_n 1, 1) := by decide +kernel
theorem dX11_spellsName_1 : decode cX11_spellsName 1 = .ok (.iconst (-1), 1) := by decide +kernel
theorem dX11_spellsName_2 : decode cX11_spellsName 2 = .ok (.if_icmp .ne 10, 3) := by decide +kernel
theorem dX11_spellsName_5 : decode cX11_spellsName 5 = .ok (.aload_n 0, 1) := by decide +kernel
theorem dX11_spellsName_6 : decode cX11_spellsName 6 = .ok (.bipush 63, 2) := by decide +kernel
theorem dX11_spellsName_8 : decode cX11_spellsName 8 = .ok (.invokevirtual 468, 3) := by decide +kernel
theorem dX11_spellsName_11 : decode cX11_spellsName 11 = .ok (.return_, 1) := by decide +kernel
theorem dX11_spellsName_12 : decode cX11_spellsName 12 = .ok (.aload_n 0, 1) := by decide +kernel
theorem dX11_spellsName_13 : decode cX11_spellsName 13 = .ok (.getfield 41, 3) := by decide +kernel
theorem dX11_spellsName_16 : decode cX11_spellsName 16 = .ok (.iload_n 1, 1) := by decide +kernel
theorem dX11_spellsName_17 : decode cX11_spellsName 17 = .ok (.iaload, 1) := by decide +kernel
theorem dX11_spellsName_18 : decode cX11_spellsName 18 = .ok (.iconst 1, 1) := by decide +kernel
theorem dX11_spellsName_19 : decode cX11_spellsName 19 = .ok (.isub, 1) := by decide +kernel
theorem dX11_spellsName_20 : decode cX11_spellsName 20 = .ok (.istore_n 2, 1) := by decide +kernel
theorem dX11_spellsName_21 : decode cX11_spellsName 21 = .ok (.iload_n 2, 1) := by decide +kernel
theorem dX11_spellsName_22 : decode cX11_spellsName 22 = .ok (.ifCond .lt 52, 3) := by decide +kernel
theorem dX11_spellsName_25 : decode cX11_spellsName 25 = .ok (.aload_n 0, 1) := by decide +kernel
theorem dX11_spellsName_26 : decode cX11_spellsName 26 = .ok (.getfield 44, 3) := by decide +kernel
theorem dX11_spellsName_29 : decode cX11_spellsName 29 = .ok (.iload_n 1, 1) := by decide +kernel
theorem dX11_spellsName_30 : decode cX11_spellsName 30 = .ok (.laload, 1) := by decide +kernel
theorem dX11_spellsName_31 : decode cX11_spellsName 31 = .ok (.lstore_n 3, 1) := by decide +kernel
theorem dX11_spellsName_32 : decode cX11_spellsName 32 = .ok (.iconst 0, 1) := by decide +kernel
theorem dX11_spellsName_33 : decode cX11_spellsName 33 = .ok (.istore 5, 2) := by decide +kernel
theorem dX11_spellsName_35 : decode cX11_spellsName 35 = .ok (.iload 5, 2) := by decide +kernel
theorem dX11_spellsName_37 : decode cX11_spellsName 37 = .ok (.iload_n 2, 1) := by decide +kernel
theorem dX11_spellsName_38 : decode cX11_spellsName 38 = .ok (.if_icmp .ge 15, 3) := by decide +kernel
theorem dX11_spellsName_41 : decode cX11_spellsName 41 = .ok (.lload_n 3, 1) := by decide +kernel
theorem dX11_spellsName_42 : decode cX11_spellsName 42 = .ok (.ldc2_w 125, 3) := by decide +kernel
theorem dX11_spellsName_45 : decode cX11_spellsName 45 = .ok (.ldiv, 1) := by decide +kernel
theorem dX11_spellsName_46 : decode cX11_spellsName 46 = .ok (.lstore_n 3, 1) := by decide +kernel
theorem dX11_spellsName_47 : decode cX11_spellsName 47 = .ok (.iinc 5 1, 3) := by decide +kernel
theorem dX11_spellsName_50 : decode cX11_spellsName 50 = .ok (.goto (-15), 3) := by decide +kernel
theorem dX11_spellsName_53 : decode cX11_spellsName 53 = .ok (.aload_n 0, 1) := by decide +kernel
theorem dX11_spellsName_54 : decode cX11_spellsName 54 = .ok (.bipush 97, 2) := by decide +kernel
theorem dX11_spellsName_56 : decode cX11_spellsName 56 = .ok (.lload_n 3, 1) := by decide +kernel
theorem dX11_spellsName_57 : decode cX11_spellsName 57 = .ok (.lconst 1, 1) := by decide +kernel
theorem dX11_spellsName_58 : decode cX11_spellsName 58 = .ok (.lsub, 1) := by decide +kernel
theorem dX11_spellsName_59 : decode cX11_spellsName 59 = .ok (.ldc2_w 125, 3) := by decide +kernel
theorem dX11_spellsName_62 : decode cX11_spellsName 62 = .ok (.lrem, 1) := by decide +kernel
theorem dX11_spellsName_63 : decode cX11_spellsName 63 = .ok (.l2i, 1) := by decide +kernel
theorem dX11_spellsName_64 : decode cX11_spellsName 64 = .ok (.iadd, 1) := by decide +kernel
theorem dX11_spellsName_65 : decode cX11_spellsName 65 = .ok (.invokevirtual 468, 3) := by decide +kernel
theorem dX11_spellsName_68 : decode cX11_spellsName 68 = .ok (.iinc 2 (-1), 3) := by decide +kernel
theorem dX11_spellsName_71 : decode cX11_spellsName 71 = .ok (.goto (-50), 3) := by decide +kernel
theorem dX11_spellsName_74 : decode cX11_spellsName 74 = .ok (.return_, 1) := by decide +kernel
theorem dX11_spell_0 : decode cX11_spell 0 = .ok (.aload_n 0, 1) := by decide +kernel
theorem dX11_spell_1 : decode cX11_spell 1 = .ok (.iload_n 1, 1) := by decide +kernel
theorem dX11_spell_2 : decode cX11_spell 2 = .ok (.invokevirtual 432, 3) := by decide +kernel
theorem dX11_spell_5 : decode cX11_spell 5 = .ok (.ifCond .eq 11, 3) := by decide +kernel
theorem dX11_spell_8 : decode cX11_spell 8 = .ok (.aload_n 0, 1) := by decide +kernel
theorem dX11_spell_9 : decode cX11_spell 9 = .ok (.iload_n 1, 1) := by decide +kernel
theorem dX11_spell_10 : decode cX11_spell 10 = .ok (.invokevirtual 435, 3) := by decide +kernel
theorem dX11_spell_13 : decode cX11_spell 13 = .ok (.ifCond .ne 5, 3) := by decide +kernel
theorem dX11_spell_16 : decode cX11_spell 16 = .ok (.iconst (-1), 1) := by decide +kernel
theorem dX11_spell_17 : decode cX11_spell 17 = .ok (.ireturn, 1) := by decide +kernel
theorem dX11_spell_18 : decode cX11_spell 18 = .ok (.aload_n 0, 1) := by decide +kernel
theorem dX11_spell_19 : decode cX11_spell 19 = .ok (.iconst 0, 1) := by decide +kernel
theorem dX11_spell_20 : decode cX11_spell 20 = .ok (.putfield 465, 3) := by decide +kernel
theorem dX11_spell_23 : decode cX11_spell 23 = .ok (.aload_n 0, 1) := by decide +kernel
theorem dX11_spell_24 : decode cX11_spell 24 = .ok (.aload_n 0, 1) := by decide +kernel
theorem dX11_spell_25 : decode cX11_spell 25 = .ok (.getfield 68, 3) := by decide +kernel
theorem dX11_spell_28 : decode cX11_spell 28 = .ok (.iload_n 1, 1) := by decide +kernel
theorem dX11_spell_29 : decode cX11_spell 29 = .ok (.iaload, 1) := by decide +kernel
theorem dX11_spell_30 : decode cX11_spell 30 = .ok (.invokevirtual 471, 3) := by decide +kernel
theorem dX11_spell_33 : decode cX11_spell 33 = .ok (.aload_n 0, 1) := by decide +kernel
theorem dX11_spell_34 : decode cX11_spell 34 = .ok (.bipush 64, 2) := by decide +kernel
theorem dX11_spell_36 : decode cX11_spell 36 = .ok (.invokevirtual 468, 3) := by decide +kernel
theorem dX11_spell_39 : decode cX11_spell 39 = .ok (.aload_n 0, 1) := by decide +kernel
theorem dX11_spell_40 : decode cX11_spell 40 = .ok (.aload_n 0, 1) := by decide +kernel
theorem dX11_spell_41 : decode cX11_spell 41 = .ok (.iload_n 1, 1) := by decide +kernel
theorem dX11_spell_42 : decode cX11_spell 42 = .ok (.invokevirtual 320, 3) := by decide +kernel
theorem dX11_spell_45 : decode cX11_spell 45 = .ok (.invokevirtual 474, 3) := by decide +kernel
theorem dX11_spell_48 : decode cX11_spell 48 = .ok (.aload_n 0, 1) := by decide +kernel
theorem dX11_spell_49 : decode cX11_spell 49 = .ok (.bipush 58, 2) := by decide +kernel
theorem dX11_spell_51 : decode cX11_spell 51 = .ok (.invokevirtual 468, 3) := by decide +kernel
theorem dX11_spell_54 : decode cX11_spell 54 = .ok (.aload_n 0, 1) := by decide +kernel
theorem dX11_spell_55 : decode cX11_spell 55 = .ok (.aload_n 0, 1) := by decide +kernel
theorem dX11_spell_56 : decode cX11_spell 56 = .ok (.iload_n 1, 1) := by decide +kernel
theorem dX11_spell_57 : decode cX11_spell 57 = .ok (.invokevirtual 341, 3) := by decide +kernel
theorem dX11_spell_60 : decode cX11_spell 60 = .ok (.invokevirtual 474, 3) := by decide +kernel
theorem dX11_spell_63 : decode cX11_spell 63 = .ok (.iload_n 2, 1) := by decide +kernel
theorem dX11_spell_64 : decode cX11_spell 64 = .ok (.iconst (-1), 1) := by decide +kernel
theorem dX11_spell_65 : decode cX11_spell 65 = .ok (.if_icmp .ne 10, 3) := by decide +kernel
theorem dX11_spell_68 : decode cX11_spell 68 = .ok (.aload_n 0, 1) := by decide +kernel
theorem dX11_spell_69 : decode cX11_spell 69 = .ok (.getfield 465, 3) := by decide +kernel
theorem dX11_spell_72 : decode cX11_spell 72 = .ok (.goto 27, 3) := by decide +kernel
theorem dX11_spell_75 : decode cX11_spell 75 = .ok (.iload_n 2, 1) := by decide +kernel
theorem dX11_spell_76 : decode cX11_spell 76 = .ok (.iconst 0, 1) := by decide +kernel
theorem dX11_spell_77 : decode cX11_spell 77 = .ok (.aload_n 0, 1) := by decide +kernel
theorem dX11_spell_78 : decode cX11_spell 78 = .ok (.getfield 465, 3) := by decide +kernel
theorem dX11_spell_81 : decode cX11_spell 81 = .ok (.iconst 1, 1) := by decide +kernel
theorem dX11_spell_82 : decode cX11_spell 82 = .ok (.isub, 1) := by decide +kernel
theorem dX11_spell_83 : decode cX11_spell 83 = .ok (.invokestatic 103, 3) := by decide +kernel
theorem dX11_spell_86 : decode cX11_spell 86 = .ok (.ifCond .eq 12, 3) := by decide +kernel
theorem dX11_spell_89 : decode cX11_spell 89 = .ok (.aload_n 0, 1) := by decide +kernel
theorem dX11_spell_90 : decode cX11_spell 90 = .ok (.getfield 89, 3) := by decide +kernel
theorem dX11_spell_93 : decode cX11_spell 93 = .ok (.iload_n 2, 1) := by decide +kernel
theorem dX11_spell_94 : decode cX11_spell 94 = .ok (.iaload, 1) := by decide +kernel
theorem dX11_spell_95 : decode cX11_spell 95 = .ok (.goto 4, 3) := by decide +kernel
theorem dX11_spell_98 : decode cX11_spell 98 = .ok (.iconst (-1), 1) := by decide +kernel
theorem dX11_spell_99 : decode cX11_spell 99 = .ok (.ireturn, 1) := by decide +kernel
theorem dX11_isScript_0 : decode cX11_isScript 0 = .ok (.iload_n 1, 1) := by decide +kernel
theorem dX11_isScript_1 : decode cX11_isScript 1 = .ok (.iconst 0, 1) := by decide +kernel
theorem dX11_isScript_2 : decode cX11_isScript 2 = .ok (.aload_n 0, 1) := by decide +kernel
theorem dX11_isScript_3 : decode cX11_isScript 3 = .ok (.getfield 275, 3) := by decide +kernel
theorem dX11_isScript_6 : decode cX11_isScript 6 = .ok (.iconst 1, 1) := by decide +kernel
theorem dX11_isScript_7 : decode cX11_isScript 7 = .ok (.isub, 1) := by decide +kernel
theorem dX11_isScript_8 : decode cX11_isScript 8 = .ok (.invokestatic 103, 3) := by decide +kernel
theorem dX11_isScript_11 : decode cX11_isScript 11 = .ok (.ireturn, 1) := by decide +kernel
theorem dX11_step_0 : decode cX11_step 0 = .ok (.aload_n 0, 1) := by decide +kernel
theorem dX11_step_1 : decode cX11_step 1 = .ok (.iload_n 1, 1) := by decide +kernel
theorem dX11_step_2 : decode cX11_step 2 = .ok (.invokevirtual 477, 3) := by decide +kernel
theorem dX11_step_5 : decode cX11_step 5 = .ok (.ifCond .eq 46, 3) := by decide +kernel
theorem dX11_step_8 : decode cX11_step 8 = .ok (.iload_n 2, 1) := by decide +kernel
theorem dX11_step_9 : decode cX11_step 9 = .ok (.iconst 0, 1) := by decide +kernel
theorem dX11_step_10 : decode cX11_step 10 = .ok (.aload_n 0, 1) := by decide +kernel
theorem dX11_step_11 : decode cX11_step 11 = .ok (.getfield 29, 3) := by decide +kernel
theorem dX11_step_14 : decode cX11_step 14 = .ok (.iload_n 1, 1) := by decide +kernel
theorem dX11_step_15 : decode cX11_step 15 = .ok (.iaload, 1) := by decide +kernel
theorem dX11_step_16 : decode cX11_step 16 = .ok (.iconst 1, 1) := by decide +kernel
theorem dX11_step_17 : decode cX11_step 17 = .ok (.isub, 1) := by decide +kernel
theorem dX11_step_18 : decode cX11_step 18 = .ok (.invokestatic 103, 3) := by decide +kernel
theorem dX11_step_21 : decode cX11_step 21 = .ok (.ifCond .eq 30, 3) := by decide +kernel
theorem dX11_step_24 : decode cX11_step 24 = .ok (.iload_n 3, 1) := by decide +kernel
theorem dX11_step_25 : decode cX11_step 25 = .ok (.iconst 0, 1) := by decide +kernel
theorem dX11_step_26 : decode cX11_step 26 = .ok (.iconst 2, 1) := by decide +kernel
theorem dX11_step_27 : decode cX11_step 27 = .ok (.invokestatic 103, 3) := by decide +kernel
theorem dX11_step_30 : decode cX11_step 30 = .ok (.ifCond .eq 21, 3) := by decide +kernel
theorem dX11_step_33 : decode cX11_step 33 = .ok (.aload_n 0, 1) := by decide +kernel
theorem dX11_step_34 : decode cX11_step 34 = .ok (.getfield 26, 3) := by decide +kernel
theorem dX11_step_37 : decode cX11_step 37 = .ok (.iconst 3, 1) := by decide +kernel
theorem dX11_step_38 : decode cX11_step 38 = .ok (.bipush 12, 2) := by decide +kernel
theorem dX11_step_40 : decode cX11_step 40 = .ok (.iload_n 1, 1) := by decide +kernel
theorem dX11_step_41 : decode cX11_step 41 = .ok (.imul, 1) := by decide +kernel
theorem dX11_step_42 : decode cX11_step 42 = .ok (.iload_n 2, 1) := by decide +kernel
theorem dX11_step_43 : decode cX11_step 43 = .ok (.iadd, 1) := by decide +kernel
theorem dX11_step_44 : decode cX11_step 44 = .ok (.imul, 1) := by decide +kernel
theorem dX11_step_45 : decode cX11_step 45 = .ok (.iload_n 3, 1) := by decide +kernel
theorem dX11_step_46 : decode cX11_step 46 = .ok (.iadd, 1) := by decide +kernel
theorem dX11_step_47 : decode cX11_step 47 = .ok (.iaload, 1) := by decide +kernel
theorem dX11_step_48 : decode cX11_step 48 = .ok (.goto 5, 3) := by decide +kernel
theorem dX11_step_51 : decode cX11_step 51 = .ok (.ldc 240, 2) := by decide +kernel
theorem dX11_step_53 : decode cX11_step 53 = .ok (.ireturn, 1) := by decide +kernel
theorem dX11_goSteps_0 : decode cX11_goSteps 0 = .ok (.iconst 0, 1) := by decide +kernel
theorem dX11_goSteps_1 : decode cX11_goSteps 1 = .ok (.istore_n 3, 1) := by decide +kernel
theorem dX11_goSteps_2 : decode cX11_goSteps 2 = .ok (.iload_n 3, 1) := by decide +kernel
theorem dX11_goSteps_3 : decode cX11_goSteps 3 = .ok (.aload_n 0, 1) := by decide +kernel
theorem dX11_goSteps_4 : decode cX11_goSteps 4 = .ok (.getfield 29, 3) := by decide +kernel
theorem dX11_goSteps_7 : decode cX11_goSteps 7 = .ok (.iload_n 1, 1) := by decide +kernel
theorem dX11_goSteps_8 : decode cX11_goSteps 8 = .ok (.iaload, 1) := by decide +kernel
theorem dX11_goSteps_9 : decode cX11_goSteps 9 = .ok (.if_icmp .ge 121, 3) := by decide +kernel
theorem dX11_goSteps_12 : decode cX11_goSteps 12 = .ok (.iconst 3, 1) := by decide +kernel
theorem dX11_goSteps_13 : decode cX11_goSteps 13 = .ok (.bipush 12, 2) := by decide +kernel
theorem dX11_goSteps_15 : decode cX11_goSteps 15 = .ok (.iload_n 1, 1) := by decide +kernel
theorem dX11_goSteps_16 : decode cX11_goSteps 16 = .ok (.imul, 1) := by decide +kernel
theorem dX11_goSteps_17 : decode cX11_goSteps 17 = .ok (.iload_n 3, 1) := by decide +kernel
theorem dX11_goSteps_18 : decode cX11_goSteps 18 = .ok (.iadd, 1) := by decide +kernel
theorem dX11_goSteps_19 : decode cX11_goSteps 19 = .ok (.imul, 1) := by decide +kernel
theorem dX11_goSteps_20 : decode cX11_goSteps 20 = .ok (.istore 4, 2) := by decide +kernel
theorem dX11_goSteps_22 : decode cX11_goSteps 22 = .ok (.aload_n 0, 1) := by decide +kernel
theorem dX11_goSteps_23 : decode cX11_goSteps 23 = .ok (.aload_n 0, 1) := by decide +kernel
theorem dX11_goSteps_24 : decode cX11_goSteps 24 = .ok (.getfield 26, 3) := by decide +kernel
theorem dX11_goSteps_27 : decode cX11_goSteps 27 = .ok (.iload 4, 2) := by decide +kernel
theorem dX11_goSteps_29 : decode cX11_goSteps 29 = .ok (.iaload, 1) := by decide +kernel
theorem dX11_goSteps_30 : decode cX11_goSteps 30 = .ok (.aload_n 0, 1) := by decide +kernel
theorem dX11_goSteps_31 : decode cX11_goSteps 31 = .ok (.getfield 26, 3) := by decide +kernel
theorem dX11_goSteps_34 : decode cX11_goSteps 34 = .ok (.iload 4, 2) := by decide +kernel
theorem dX11_goSteps_36 : decode cX11_goSteps 36 = .ok (.iconst 1, 1) := by decide +kernel
theorem dX11_goSteps_37 : decode cX11_goSteps 37 = .ok (.iadd, 1) := by decide +kernel
theorem dX11_goSteps_38 : decode cX11_goSteps 38 = .ok (.iaload, 1) := by decide +kernel
theorem dX11_goSteps_39 : decode cX11_goSteps 39 = .ok (.aload_n 0, 1) := by decide +kernel
theorem dX11_goSteps_40 : decode cX11_goSteps 40 = .ok (.getfield 26, 3) := by decide +kernel
theorem dX11_goSteps_43 : decode cX11_goSteps 43 = .ok (.iload 4, 2) := by decide +kernel
theorem dX11_goSteps_45 : decode cX11_goSteps 45 = .ok (.iconst 2, 1) := by decide +kernel
theorem dX11_goSteps_46 : decode cX11_goSteps 46 = .ok (.iadd, 1) := by decide +kernel
theorem dX11_goSteps_47 : decode cX11_goSteps 47 = .ok (.iaload, 1) := by decide +kernel
theorem dX11_goSteps_48 : decode cX11_goSteps 48 = .ok (.invokevirtual 407, 3) := by decide +kernel
theorem dX11_goSteps_51 : decode cX11_goSteps 51 = .ok (.iconst (-1), 1) := by decide +kernel
theorem dX11_goSteps_52 : decode cX11_goSteps 52 = .ok (.if_icmp .eq 5, 3) := by decide +kernel
theorem dX11_goSteps_55 : decode cX11_goSteps 55 = .ok (.iload_n 3, 1) := by decide +kernel
theorem dX11_goSteps_56 : decode cX11_goSteps 56 = .ok (.ireturn, 1) := by decide +kernel
theorem dX11_goSteps_57 : decode cX11_goSteps 57 = .ok (.iload_n 2, 1) := by decide +kernel
theorem dX11_goSteps_58 : decode cX11_goSteps 58 = .ok (.ifCond .eq 36, 3) := by decide +kernel
theorem dX11_goSteps_61 : decode cX11_goSteps 61 = .ok (.aload_n 0, 1) := by decide +kernel
theorem dX11_goSteps_62 : decode cX11_goSteps 62 = .ok (.aload_n 0, 1) := by decide +kernel
theorem dX11_goSteps_63 : decode cX11_goSteps 63 = .ok (.getfield 26, 3) := by decide +kernel
theorem dX11_goSteps_66 : decode cX11_goSteps 66 = .ok (.iload 4, 2) := by decide +kernel
theorem dX11_goSteps_68 : decode cX11_goSteps 68 = .ok (.iaload, 1) := by decide +kernel
theorem dX11_goSteps_69 : decode cX11_goSteps 69 = .ok (.aload_n 0, 1) := by decide +kernel
theorem dX11_goSteps_70 : decode cX11_goSteps 70 = .ok (.getfield 26, 3) := by decide +kernel
theorem dX11_goSteps_73 : decode cX11_goSteps 73 = .ok (.iload 4, 2) := by decide +kernel
theorem dX11_goSteps_75 : decode cX11_goSteps 75 = .ok (.iconst 1, 1) := by decide +kernel
theorem dX11_goSteps_76 : decode cX11_goSteps 76 = .ok (.iadd, 1) := by decide +kernel
theorem dX11_goSteps_77 : decode cX11_goSteps 77 = .ok (.iaload, 1) := by decide +kernel
theorem dX11_goSteps_78 : decode cX11_goSteps 78 = .ok (.aload_n 0, 1) := by decide +kernel
theorem dX11_goSteps_79 : decode cX11_goSteps 79 = .ok (.getfield 26, 3) := by decide +kernel
theorem dX11_goSteps_82 : decode cX11_goSteps 82 = .ok (.iload 4, 2) := by decide +kernel
theorem dX11_goSteps_84 : decode cX11_goSteps 84 = .ok (.iconst 2, 1) := by decide +kernel
theorem dX11_goSteps_85 : decode cX11_goSteps 85 = .ok (.iadd, 1) := by decide +kernel
theorem dX11_goSteps_86 : decode cX11_goSteps 86 = .ok (.iaload, 1) := by decide +kernel
theorem dX11_goSteps_87 : decode cX11_goSteps 87 = .ok (.invokevirtual 410, 3) := by decide +kernel
theorem dX11_goSteps_90 : decode cX11_goSteps 90 = .ok (.pop, 1) := by decide +kernel
theorem dX11_goSteps_91 : decode cX11_goSteps 91 = .ok (.goto 33, 3) := by decide +kernel
theorem dX11_goSteps_94 : decode cX11_goSteps 94 = .ok (.aload_n 0, 1) := by decide +kernel
theorem dX11_goSteps_95 : decode cX11_goSteps 95 = .ok (.aload_n 0, 1) := by decide +kernel
theorem dX11_goSteps_96 : decode cX11_goSteps 96 = .ok (.getfield 26, 3) := by decide +kernel
theorem dX11_goSteps_99 : decode cX11_goSteps 99 = .ok (.iload 4, 2) := by decide +kernel
theorem dX11_goSteps_101 : decode cX11_goSteps 101 = .ok (.iaload, 1) := by decide +kernel
theorem dX11_goSteps_102 : decode cX11_goSteps 102 = .ok (.aload_n 0, 1) := by decide +kernel
theorem dX11_goSteps_103 : decode cX11_goSteps 103 = .ok (.getfield 26, 3) := by decide +kernel
theorem dX11_goSteps_106 : decode cX11_goSteps 106 = .ok (.iload 4, 2) := by decide +kernel
theorem dX11_goSteps_108 : decode cX11_goSteps 108 = .ok (.iconst 1, 1) := by decide +kernel
theorem dX11_goSteps_109 : decode cX11_goSteps 109 = .ok (.iadd, 1) := by decide +kernel
theorem dX11_goSteps_110 : decode cX11_goSteps 110 = .ok (.iaload, 1) := by decide +kernel
theorem dX11_goSteps_111 : decode cX11_goSteps 111 = .ok (.aload_n 0, 1) := by decide +kernel
theorem dX11_goSteps_112 : decode cX11_goSteps 112 = .ok (.getfield 26, 3) := by decide +kernel
theorem dX11_goSteps_115 : decode cX11_goSteps 115 = .ok (.iload 4, 2) := by decide +kernel
theorem dX11_goSteps_117 : decode cX11_goSteps 117 = .ok (.iconst 2, 1) := by decide +kernel
theorem dX11_goSteps_118 : decode cX11_goSteps 118 = .ok (.iadd, 1) := by decide +kernel
theorem dX11_goSteps_119 : decode cX11_goSteps 119 = .ok (.iaload, 1) := by decide +kernel
theorem dX11_goSteps_120 : decode cX11_goSteps 120 = .ok (.invokevirtual 400, 3) := by decide +kernel
theorem dX11_goSteps_123 : decode cX11_goSteps 123 = .ok (.pop, 1) := by decide +kernel
theorem dX11_goSteps_124 : decode cX11_goSteps 124 = .ok (.iinc 3 1, 3) := by decide +kernel
theorem dX11_goSteps_127 : decode cX11_goSteps 127 = .ok (.goto (-125), 3) := by decide +kernel
theorem dX11_goSteps_130 : decode cX11_goSteps 130 = .ok (.aload_n 0, 1) := by decide +kernel
theorem dX11_goSteps_131 : decode cX11_goSteps 131 = .ok (.getfield 29, 3) := by decide +kernel
theorem dX11_goSteps_134 : decode cX11_goSteps 134 = .ok (.iload_n 1, 1) := by decide +kernel
theorem dX11_goSteps_135 : decode cX11_goSteps 135 = .ok (.iaload, 1) := by decide +kernel
theorem dX11_goSteps_136 : decode cX11_goSteps 136 = .ok (.ireturn, 1) := by decide +kernel
theorem dX11_run_0 : decode cX11_run 0 = .ok (.aload_n 0, 1) := by decide +kernel
theorem dX11_run_1 : decode cX11_run 1 = .ok (.iload_n 1, 1) := by decide +kernel
theorem dX11_run_2 : decode cX11_run 2 = .ok (.invokevirtual 477, 3) := by decide +kernel
theorem dX11_run_5 : decode cX11_run 5 = .ok (.ifCond .eq 19, 3) := by decide +kernel
theorem dX11_run_8 : decode cX11_run 8 = .ok (.aload_n 0, 1) := by decide +kernel
theorem dX11_run_9 : decode cX11_run 9 = .ok (.getfield 254, 3) := by decide +kernel
theorem dX11_run_12 : decode cX11_run 12 = .ok (.ifCond .eq 12, 3) := by decide +kernel
theorem dX11_run_15 : decode cX11_run 15 = .ok (.iload_n 2, 1) := by decide +kernel
theorem dX11_run_16 : decode cX11_run 16 = .ok (.iconst 0, 1) := by decide +kernel
theorem dX11_run_17 : decode cX11_run 17 = .ok (.iconst 1, 1) := by decide +kernel
theorem dX11_run_18 : decode cX11_run 18 = .ok (.invokestatic 103, 3) := by decide +kernel
theorem dX11_run_21 : decode cX11_run 21 = .ok (.ifCond .ne 6, 3) := by decide +kernel
theorem dX11_run_24 : decode cX11_run 24 = .ok (.ldc 240, 2) := by decide +kernel
theorem dX11_run_26 : decode cX11_run 26 = .ok (.ireturn, 1) := by decide +kernel
theorem dX11_run_27 : decode cX11_run 27 = .ok (.aload_n 0, 1) := by decide +kernel
theorem dX11_run_28 : decode cX11_run 28 = .ok (.invokevirtual 450, 3) := by decide +kernel
theorem dX11_run_31 : decode cX11_run 31 = .ok (.aload_n 0, 1) := by decide +kernel
theorem dX11_run_32 : decode cX11_run 32 = .ok (.iload_n 1, 1) := by decide +kernel
theorem dX11_run_33 : decode cX11_run 33 = .ok (.iconst 0, 1) := by decide +kernel
theorem dX11_run_34 : decode cX11_run 34 = .ok (.invokevirtual 480, 3) := by decide +kernel
theorem dX11_run_37 : decode cX11_run 37 = .ok (.istore_n 3, 1) := by decide +kernel
theorem dX11_run_38 : decode cX11_run 38 = .ok (.aload_n 0, 1) := by decide +kernel
theorem dX11_run_39 : decode cX11_run 39 = .ok (.invokevirtual 373, 3) := by decide +kernel
theorem dX11_run_42 : decode cX11_run 42 = .ok (.istore 4, 2) := by decide +kernel
theorem dX11_run_44 : decode cX11_run 44 = .ok (.aload_n 0, 1) := by decide +kernel
theorem dX11_run_45 : decode cX11_run 45 = .ok (.invokevirtual 453, 3) := by decide +kernel
theorem dX11_run_48 : decode cX11_run 48 = .ok (.iload_n 2, 1) := by decide +kernel
theorem dX11_run_49 : decode cX11_run 49 = .ok (.iconst 1, 1) := by decide +kernel
theorem dX11_run_50 : decode cX11_run 50 = .ok (.if_icmp .ne 8, 3) := by decide +kernel
theorem dX11_run_53 : decode cX11_run 53 = .ok (.iload 4, 2) := by decide +kernel
theorem dX11_run_55 : decode cX11_run 55 = .ok (.goto 18, 3) := by decide +kernel
theorem dX11_run_58 : decode cX11_run 58 = .ok (.iload_n 3, 1) := by decide +kernel
theorem dX11_run_59 : decode cX11_run 59 = .ok (.aload_n 0, 1) := by decide +kernel
theorem dX11_run_60 : decode cX11_run 60 = .ok (.getfield 29, 3) := by decide +kernel
theorem dX11_run_63 : decode cX11_run 63 = .ok (.iload_n 1, 1) := by decide +kernel
theorem dX11_run_64 : decode cX11_run 64 = .ok (.iaload, 1) := by decide +kernel
theorem dX11_run_65 : decode cX11_run 65 = .ok (.if_icmp .ne 7, 3) := by decide +kernel
theorem dX11_run_68 : decode cX11_run 68 = .ok (.iconst (-1), 1) := by decide +kernel
theorem dX11_run_69 : decode cX11_run 69 = .ok (.goto 4, 3) := by decide +kernel
theorem dX11_run_72 : decode cX11_run 72 = .ok (.iload_n 3, 1) := by decide +kernel
theorem dX11_run_73 : decode cX11_run 73 = .ok (.ireturn, 1) := by decide +kernel
theorem dX11_perform_0 : decode cX11_perform 0 = .ok (.aload_n 0, 1) := by decide +kernel
theorem dX11_perform_1 : decode cX11_perform 1 = .ok (.iload_n 1, 1) := by decide +kernel
theorem dX11_perform_2 : decode cX11_perform 2 = .ok (.invokevirtual 477, 3) := by decide +kernel
theorem dX11_perform_5 : decode cX11_perform 5 = .ok (.ifCond .eq 19, 3) := by decide +kernel
theorem dX11_perform_8 : decode cX11_perform 8 = .ok (.aload_n 0, 1) := by decide +kernel
theorem dX11_perform_9 : decode cX11_perform 9 = .ok (.getfield 254, 3) := by decide +kernel
theorem dX11_perform_12 : decode cX11_perform 12 = .ok (.ifCond .eq 12, 3) := by decide +kernel
theorem dX11_perform_15 : decode cX11_perform 15 = .ok (.aload_n 0, 1) := by decide +kernel
theorem dX11_perform_16 : decode cX11_perform 16 = .ok (.iload_n 1, 1) := by decide +kernel
theorem dX11_perform_17 : decode cX11_perform 17 = .ok (.iconst 1, 1) := by decide +kernel
theorem dX11_perform_18 : decode cX11_perform 18 = .ok (.invokevirtual 480, 3) := by decide +kernel
theorem dX11_perform_21 : decode cX11_perform 21 = .ok (.goto 4, 3) := by decide +kernel
theorem dX11_perform_24 : decode cX11_perform 24 = .ok (.iconst (-1), 1) := by decide +kernel
theorem dX11_perform_25 : decode cX11_perform 25 = .ok (.ireturn, 1) := by decide +kernel
theorem dX11_ofPeak_0 : decode cX11_ofPeak 0 = .ok (.iload_n 2, 1) := by decide +kernel
theorem dX11_ofPeak_1 : decode cX11_ofPeak 1 = .ok (.tableswitch 69 0 2 #[27, 45, 51], 27) := by decide +kernel
theorem dX11_ofPeak_28 : decode cX11_ofPeak 28 = .ok (.aload_n 0, 1) := by decide +kernel
theorem dX11_ofPeak_29 : decode cX11_ofPeak 29 = .ok (.iload_n 1, 1) := by decide +kernel
theorem dX11_ofPeak_30 : decode cX11_ofPeak 30 = .ok (.invokevirtual 435, 3) := by decide +kernel
theorem dX11_ofPeak_33 : decode cX11_ofPeak 33 = .ok (.ifCond .eq 11, 3) := by decide +kernel
theorem dX11_ofPeak_36 : decode cX11_ofPeak 36 = .ok (.aload_n 0, 1) := by decide +kernel
theorem dX11_ofPeak_37 : decode cX11_ofPeak 37 = .ok (.iload_n 1, 1) := by decide +kernel
theorem dX11_ofPeak_38 : decode cX11_ofPeak 38 = .ok (.invokevirtual 320, 3) := by decide +kernel
theorem dX11_ofPeak_41 : decode cX11_ofPeak 41 = .ok (.goto 4, 3) := by decide +kernel
theorem dX11_ofPeak_44 : decode cX11_ofPeak 44 = .ok (.iconst 0, 1) := by decide +kernel
theorem dX11_ofPeak_45 : decode cX11_ofPeak 45 = .ok (.ireturn, 1) := by decide +kernel
theorem dX11_ofPeak_46 : decode cX11_ofPeak 46 = .ok (.aload_n 0, 1) := by decide +kernel
theorem dX11_ofPeak_47 : decode cX11_ofPeak 47 = .ok (.iload_n 1, 1) := by decide +kernel
theorem dX11_ofPeak_48 : decode cX11_ofPeak 48 = .ok (.invokevirtual 344, 3) := by decide +kernel
theorem dX11_ofPeak_51 : decode cX11_ofPeak 51 = .ok (.ireturn, 1) := by decide +kernel
theorem dX11_ofPeak_52 : decode cX11_ofPeak 52 = .ok (.aload_n 0, 1) := by decide +kernel
theorem dX11_ofPeak_53 : decode cX11_ofPeak 53 = .ok (.iload_n 1, 1) := by decide +kernel
theorem dX11_ofPeak_54 : decode cX11_ofPeak 54 = .ok (.invokevirtual 435, 3) := by decide +kernel
theorem dX11_ofPeak_57 : decode cX11_ofPeak 57 = .ok (.ifCond .eq 11, 3) := by decide +kernel
theorem dX11_ofPeak_60 : decode cX11_ofPeak 60 = .ok (.aload_n 0, 1) := by decide +kernel
theorem dX11_ofPeak_61 : decode cX11_ofPeak 61 = .ok (.iload_n 1, 1) := by decide +kernel
theorem dX11_ofPeak_62 : decode cX11_ofPeak 62 = .ok (.invokevirtual 344, 3) := by decide +kernel
theorem dX11_ofPeak_65 : decode cX11_ofPeak 65 = .ok (.goto 4, 3) := by decide +kernel
theorem dX11_ofPeak_68 : decode cX11_ofPeak 68 = .ok (.iconst 0, 1) := by decide +kernel
theorem dX11_ofPeak_69 : decode cX11_ofPeak 69 = .ok (.ireturn, 1) := by decide +kernel
theorem dX11_ofPeak_70 : decode cX11_ofPeak 70 = .ok (.aload_n 0, 1) := by decide +kernel
theorem dX11_ofPeak_71 : decode cX11_ofPeak 71 = .ok (.iload_n 1, 1) := by decide +kernel
theorem dX11_ofPeak_72 : decode cX11_ofPeak 72 = .ok (.invokevirtual 435, 3) := by decide +kernel
theorem dX11_ofPeak_75 : decode cX11_ofPeak 75 = .ok (.ifCond .eq 11, 3) := by decide +kernel
theorem dX11_ofPeak_78 : decode cX11_ofPeak 78 = .ok (.aload_n 0, 1) := by decide +kernel
theorem dX11_ofPeak_79 : decode cX11_ofPeak 79 = .ok (.iload_n 1, 1) := by decide +kernel
theorem dX11_ofPeak_80 : decode cX11_ofPeak 80 = .ok (.invokevirtual 441, 3) := by decide +kernel
theorem dX11_ofPeak_83 : decode cX11_ofPeak 83 = .ok (.goto 4, 3) := by decide +kernel
theorem dX11_ofPeak_86 : decode cX11_ofPeak 86 = .ok (.iconst 0, 1) := by decide +kernel
theorem dX11_ofPeak_87 : decode cX11_ofPeak 87 = .ok (.ireturn, 1) := by decide +kernel
theorem dX11_added_0 : decode cX11_added 0 = .ok (.iconst 0, 1) := by decide +kernel
theorem dX11_added_1 : decode cX11_added 1 = .ok (.istore_n 2, 1) := by decide +kernel
theorem dX11_added_2 : decode cX11_added 2 = .ok (.iconst 0, 1) := by decide +kernel
theorem dX11_added_3 : decode cX11_added 3 = .ok (.istore_n 3, 1) := by decide +kernel
theorem dX11_added_4 : decode cX11_added 4 = .ok (.iload_n 3, 1) := by decide +kernel
theorem dX11_added_5 : decode cX11_added 5 = .ok (.aload_n 0, 1) := by decide +kernel
theorem dX11_added_6 : decode cX11_added 6 = .ok (.getfield 281, 3) := by decide +kernel
theorem dX11_added_9 : decode cX11_added 9 = .ok (.if_icmp .ge 18, 3) := by decide +kernel
theorem dX11_added_12 : decode cX11_added 12 = .ok (.iload_n 2, 1) := by decide +kernel
theorem dX11_added_13 : decode cX11_added 13 = .ok (.aload_n 0, 1) := by decide +kernel
theorem dX11_added_14 : decode cX11_added 14 = .ok (.iload_n 3, 1) := by decide +kernel
theorem dX11_added_15 : decode cX11_added 15 = .ok (.iload_n 1, 1) := by decide +kernel
theorem dX11_added_16 : decode cX11_added 16 = .ok (.invokevirtual 484, 3) := by decide +kernel
theorem dX11_added_19 : decode cX11_added 19 = .ok (.iadd, 1) := by decide +kernel
theorem dX11_added_20 : decode cX11_added 20 = .ok (.istore_n 2, 1) := by decide +kernel
theorem dX11_added_21 : decode cX11_added 21 = .ok (.iinc 3 1, 3) := by decide +kernel
theorem dX11_added_24 : decode cX11_added 24 = .ok (.goto (-20), 3) := by decide +kernel
theorem dX11_added_27 : decode cX11_added 27 = .ok (.iload_n 2, 1) := by decide +kernel
theorem dX11_added_28 : decode cX11_added 28 = .ok (.ireturn, 1) := by decide +kernel
theorem dX11_lastGeneration_0 : decode cX11_lastGeneration 0 = .ok (.iconst 0, 1) := by decide +kernel
theorem dX11_lastGeneration_1 : decode cX11_lastGeneration 1 = .ok (.istore_n 1, 1) := by decide +kernel
theorem dX11_lastGeneration_2 : decode cX11_lastGeneration 2 = .ok (.iconst 0, 1) := by decide +kernel
theorem dX11_lastGeneration_3 : decode cX11_lastGeneration 3 = .ok (.istore_n 2, 1) := by decide +kernel
theorem dX11_lastGeneration_4 : decode cX11_lastGeneration 4 = .ok (.iload_n 2, 1) := by decide +kernel
theorem dX11_lastGeneration_5 : decode cX11_lastGeneration 5 = .ok (.aload_n 0, 1) := by decide +kernel
theorem dX11_lastGeneration_6 : decode cX11_lastGeneration 6 = .ok (.getfield 281, 3) := by decide +kernel
theorem dX11_lastGeneration_9 : decode cX11_lastGeneration 9 = .ok (.if_icmp .ge 19, 3) := by decide +kernel
theorem dX11_lastGeneration_12 : decode cX11_lastGeneration 12 = .ok (.iload_n 1, 1) := by decide +kernel
theorem dX11_lastGeneration_13 : decode cX11_lastGeneration 13 = .ok (.aload_n 0, 1) := by decide +kernel
theorem dX11_lastGeneration_14 : decode cX11_lastGeneration 14 = .ok (.iload_n 2, 1) := by decide +kernel
theorem dX11_lastGeneration_15 : decode cX11_lastGeneration 15 = .ok (.invokevirtual 438, 3) := by decide +kernel
theorem dX11_lastGeneration_18 : decode cX11_lastGeneration 18 = .ok (.invokestatic 289, 3) := by decide +kernel
theorem dX11_lastGeneration_21 : decode cX11_lastGeneration 21 = .ok (.istore_n 1, 1) := by decide +kernel
theorem dX11_lastGeneration_22 : decode cX11_lastGeneration 22 = .ok (.iinc 2 1, 3) := by decide +kernel
theorem dX11_lastGeneration_25 : decode cX11_lastGeneration 25 = .ok (.goto (-21), 3) := by decide +kernel
theorem dX11_lastGeneration_28 : decode cX11_lastGeneration 28 = .ok (.iload_n 1, 1) := by decide +kernel
theorem dX11_lastGeneration_29 : decode cX11_lastGeneration 29 = .ok (.ireturn, 1) := by decide +kernel
theorem dX11_widest_0 : decode cX11_widest 0 = .ok (.iconst 0, 1) := by decide +kernel
theorem dX11_widest_1 : decode cX11_widest 1 = .ok (.istore_n 1, 1) := by decide +kernel
theorem dX11_widest_2 : decode cX11_widest 2 = .ok (.iconst 1, 1) := by decide +kernel
theorem dX11_widest_3 : decode cX11_widest 3 = .ok (.istore_n 2, 1) := by decide +kernel
theorem dX11_widest_4 : decode cX11_widest 4 = .ok (.iload_n 2, 1) := by decide +kernel
theorem dX11_widest_5 : decode cX11_widest 5 = .ok (.aload_n 0, 1) := by decide +kernel
theorem dX11_widest_6 : decode cX11_widest 6 = .ok (.getfield 314, 3) := by decide +kernel
theorem dX11_widest_9 : decode cX11_widest 9 = .ok (.if_icmp .ge 28, 3) := by decide +kernel
theorem dX11_widest_12 : decode cX11_widest 12 = .ok (.aload_n 0, 1) := by decide +kernel
theorem dX11_widest_13 : decode cX11_widest 13 = .ok (.iload_n 2, 1) := by decide +kernel
theorem dX11_widest_14 : decode cX11_widest 14 = .ok (.invokevirtual 444, 3) := by decide +kernel
theorem dX11_widest_17 : decode cX11_widest 17 = .ok (.aload_n 0, 1) := by decide +kernel
theorem dX11_widest_18 : decode cX11_widest 18 = .ok (.iload_n 1, 1) := by decide +kernel
theorem dX11_widest_19 : decode cX11_widest 19 = .ok (.invokevirtual 444, 3) := by decide +kernel
theorem dX11_widest_22 : decode cX11_widest 22 = .ok (.if_icmp .le 7, 3) := by decide +kernel
theorem dX11_widest_25 : decode cX11_widest 25 = .ok (.iload_n 2, 1) := by decide +kernel
theorem dX11_widest_26 : decode cX11_widest 26 = .ok (.goto 4, 3) := by decide +kernel
theorem dX11_widest_29 : decode cX11_widest 29 = .ok (.iload_n 1, 1) := by decide +kernel
theorem dX11_widest_30 : decode cX11_widest 30 = .ok (.istore_n 1, 1) := by decide +kernel
theorem dX11_widest_31 : decode cX11_widest 31 = .ok (.iinc 2 1, 3) := by decide +kernel
theorem dX11_widest_34 : decode cX11_widest 34 = .ok (.goto (-30), 3) := by decide +kernel
theorem dX11_widest_37 : decode cX11_widest 37 = .ok (.iload_n 1, 1) := by decide +kernel
theorem dX11_widest_38 : decode cX11_widest 38 = .ok (.ireturn, 1) := by decide +kernel
theorem dX11_most_0 : decode cX11_most 0 = .ok (.aload_n 0, 1) := by decide +kernel
theorem dX11_most_1 : decode cX11_most 1 = .ok (.getfield 254, 3) := by decide +kernel
theorem dX11_most_4 : decode cX11_most 4 = .ok (.ifCond .eq 13, 3) := by decide +kernel
theorem dX11_most_7 : decode cX11_most 7 = .ok (.iload_n 1, 1) := by decide +kernel
theorem dX11_most_8 : decode cX11_most 8 = .ok (.iconst 0, 1) := by decide +kernel
theorem dX11_most_9 : decode cX11_most 9 = .ok (.bipush 7, 2) := by decide +kernel
theorem dX11_most_11 : decode cX11_most 11 = .ok (.invokestatic 103, 3) := by decide +kernel
theorem dX11_most_14 : decode cX11_most 14 = .ok (.ifCond .ne 6, 3) := by decide +kernel
theorem dX11_most_17 : decode cX11_most 17 = .ok (.ldc 240, 2) := by decide +kernel
theorem dX11_most_19 : decode cX11_most 19 = .ok (.ireturn, 1) := by decide +kernel
theorem dX11_most_20 : decode cX11_most 20 = .ok (.aload_n 0, 1) := by decide +kernel
theorem dX11_most_21 : decode cX11_most 21 = .ok (.invokevirtual 357, 3) := by decide +kernel
theorem dX11_most_24 : decode cX11_most 24 = .ok (.iload_n 1, 1) := by decide +kernel
theorem dX11_most_25 : decode cX11_most 25 = .ok (.tableswitch 51 4 7 #[31, 36, 41, 46], 31) := by decide +kernel
theorem dX11_most_56 : decode cX11_most 56 = .ok (.aload_n 0, 1) := by decide +kernel
theorem dX11_most_57 : decode cX11_most 57 = .ok (.invokevirtual 487, 3) := by decide +kernel
theorem dX11_most_60 : decode cX11_most 60 = .ok (.ireturn, 1) := by decide +kernel
theorem dX11_most_61 : decode cX11_most 61 = .ok (.aload_n 0, 1) := by decide +kernel
theorem dX11_most_62 : decode cX11_most 62 = .ok (.invokevirtual 456, 3) := by decide +kernel
theorem dX11_most_65 : decode cX11_most 65 = .ok (.ireturn, 1) := by decide +kernel
theorem dX11_most_66 : decode cX11_most 66 = .ok (.aload_n 0, 1) := by decide +kernel
theorem dX11_most_67 : decode cX11_most 67 = .ok (.invokevirtual 490, 3) := by decide +kernel
theorem dX11_most_70 : decode cX11_most 70 = .ok (.ireturn, 1) := by decide +kernel
theorem dX11_most_71 : decode cX11_most 71 = .ok (.aload_n 0, 1) := by decide +kernel
theorem dX11_most_72 : decode cX11_most 72 = .ok (.invokevirtual 363, 3) := by decide +kernel
theorem dX11_most_75 : decode cX11_most 75 = .ok (.ireturn, 1) := by decide +kernel
theorem dX11_most_76 : decode cX11_most 76 = .ok (.aload_n 0, 1) := by decide +kernel
theorem dX11_most_77 : decode cX11_most 77 = .ok (.iload_n 1, 1) := by decide +kernel
theorem dX11_most_78 : decode cX11_most 78 = .ok (.invokevirtual 493, 3) := by decide +kernel
theorem dX11_most_81 : decode cX11_most 81 = .ok (.ireturn, 1) := by decide +kernel
theorem dX11_held_0 : decode cX11_held 0 = .ok (.iload_n 1, 1) := by decide +kernel
theorem dX11_held_1 : decode cX11_held 1 = .ok (.tableswitch 63 0 4 #[35, 40, 45, 50, 58], 35) := by decide +kernel
theorem dX11_held_36 : decode cX11_held 36 = .ok (.aload_n 0, 1) := by decide +kernel
theorem dX11_held_37 : decode cX11_held 37 = .ok (.invokevirtual 257, 3) := by decide +kernel
theorem dX11_held_40 : decode cX11_held 40 = .ok (.ireturn, 1) := by decide +kernel
theorem dX11_held_41 : decode cX11_held 41 = .ok (.aload_n 0, 1) := by decide +kernel
theorem dX11_held_42 : decode cX11_held 42 = .ok (.getfield 275, 3) := by decide +kernel
theorem dX11_held_45 : decode cX11_held 45 = .ok (.ireturn, 1) := by decide +kernel
theorem dX11_held_46 : decode cX11_held 46 = .ok (.aload_n 0, 1) := by decide +kernel
theorem dX11_held_47 : decode cX11_held 47 = .ok (.getfield 100, 3) := by decide +kernel
theorem dX11_held_50 : decode cX11_held 50 = .ok (.ireturn, 1) := by decide +kernel
theorem dX11_held_51 : decode cX11_held 51 = .ok (.aload_n 0, 1) := by decide +kernel
theorem dX11_held_52 : decode cX11_held 52 = .ok (.getfield 32, 3) := by decide +kernel
theorem dX11_held_55 : decode cX11_held 55 = .ok (.bipush 50, 2) := by decide +kernel
theorem dX11_held_57 : decode cX11_held 57 = .ok (.iaload, 1) := by decide +kernel
theorem dX11_held_58 : decode cX11_held 58 = .ok (.ireturn, 1) := by decide +kernel
theorem dX11_held_59 : decode cX11_held 59 = .ok (.aload_n 0, 1) := by decide +kernel
theorem dX11_held_60 : decode cX11_held 60 = .ok (.getfield 266, 3) := by decide +kernel
theorem dX11_held_63 : decode cX11_held 63 = .ok (.ireturn, 1) := by decide +kernel
theorem dX11_held_64 : decode cX11_held 64 = .ok (.ldc 240, 2) := by decide +kernel
theorem dX11_held_66 : decode cX11_held 66 = .ok (.ireturn, 1) := by decide +kernel
