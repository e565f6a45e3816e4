theorem dX8_init_0 : decode cX8_init 0 = .ok (.aload_n 0, 1) := by decide +kernel
theorem dX8_init_1 : decode cX8_init 1 = .ok (.invokespecial 3, 3) := by decide +kernel
theorem dX8_init_4 : decode cX8_init 4 = .ok (.aload_n 0, 1) := by decide +kernel
theorem dX8_init_5 : decode cX8_init 5 = .ok (.bipush 40, 2) := by decide +kernel
theorem dX8_init_7 : decode cX8_init 7 = .ok (.newarray .int, 2) := by decide +kernel
theorem dX8_init_9 : decode cX8_init 9 = .ok (.putfield 11, 3) := by decide +kernel
theorem dX8_init_12 : decode cX8_init 12 = .ok (.aload_n 0, 1) := by decide +kernel
theorem dX8_init_13 : decode cX8_init 13 = .ok (.iconst 0, 1) := by decide +kernel
theorem dX8_init_14 : decode cX8_init 14 = .ok (.putfield 15, 3) := by decide +kernel
theorem dX8_init_17 : decode cX8_init 17 = .ok (.return_, 1) := by decide +kernel
theorem dX1_init_0 : decode cX1_init 0 = .ok (.aload_n 0, 1) := by decide +kernel
theorem dX1_init_1 : decode cX1_init 1 = .ok (.invokespecial 3, 3) := by decide +kernel
theorem dX1_init_4 : decode cX1_init 4 = .ok (.aload_n 0, 1) := by decide +kernel
theorem dX1_init_5 : decode cX1_init 5 = .ok (.iconst 0, 1) := by decide +kernel
theorem dX1_init_6 : decode cX1_init 6 = .ok (.putfield 9, 3) := by decide +kernel
theorem dX1_init_9 : decode cX1_init 9 = .ok (.aload_n 0, 1) := by decide +kernel
theorem dX1_init_10 : decode cX1_init 10 = .ok (.bipush 24, 2) := by decide +kernel
theorem dX1_init_12 : decode cX1_init 12 = .ok (.anewarray 15, 3) := by decide +kernel
theorem dX1_init_15 : decode cX1_init 15 = .ok (.putfield 17, 3) := by decide +kernel
theorem dX1_init_18 : decode cX1_init 18 = .ok (.aload_n 0, 1) := by decide +kernel
theorem dX1_init_19 : decode cX1_init 19 = .ok (.bipush 61, 2) := by decide +kernel
theorem dX1_init_21 : decode cX1_init 21 = .ok (.newarray .int, 2) := by decide +kernel
theorem dX1_init_23 : decode cX1_init 23 = .ok (.putfield 21, 3) := by decide +kernel
theorem dX1_init_26 : decode cX1_init 26 = .ok (.return_, 1) := by decide +kernel
theorem dX0_init_0 : decode cX0_init 0 = .ok (.aload_n 0, 1) := by decide +kernel
theorem dX0_init_1 : decode cX0_init 1 = .ok (.invokespecial 1, 3) := by decide +kernel
theorem dX0_init_4 : decode cX0_init 4 = .ok (.aload_n 0, 1) := by decide +kernel
theorem dX0_init_5 : decode cX0_init 5 = .ok (.bipush 9, 2) := by decide +kernel
theorem dX0_init_7 : decode cX0_init 7 = .ok (.newarray .int, 2) := by decide +kernel
theorem dX0_init_9 : decode cX0_init 9 = .ok (.putfield 9, 3) := by decide +kernel
theorem dX0_init_12 : decode cX0_init 12 = .ok (.aload_n 0, 1) := by decide +kernel
theorem dX0_init_13 : decode cX0_init 13 = .ok (.bipush 9, 2) := by decide +kernel
theorem dX0_init_15 : decode cX0_init 15 = .ok (.newarray .int, 2) := by decide +kernel
theorem dX0_init_17 : decode cX0_init 17 = .ok (.putfield 13, 3) := by decide +kernel
theorem dX0_init_20 : decode cX0_init 20 = .ok (.aload_n 0, 1) := by decide +kernel
theorem dX0_init_21 : decode cX0_init 21 = .ok (.iconst 0, 1) := by decide +kernel
theorem dX0_init_22 : decode cX0_init 22 = .ok (.putfield 16, 3) := by decide +kernel
theorem dX0_init_25 : decode cX0_init 25 = .ok (.aload_n 0, 1) := by decide +kernel
theorem dX0_init_26 : decode cX0_init 26 = .ok (.bipush 9, 2) := by decide +kernel
theorem dX0_init_28 : decode cX0_init 28 = .ok (.newarray .int, 2) := by decide +kernel
theorem dX0_init_30 : decode cX0_init 30 = .ok (.putfield 20, 3) := by decide +kernel
theorem dX0_init_33 : decode cX0_init 33 = .ok (.aload_n 0, 1) := by decide +kernel
theorem dX0_init_34 : decode cX0_init 34 = .ok (.sipush 512, 3) := by decide +kernel
theorem dX0_init_37 : decode cX0_init 37 = .ok (.newarray .int, 2) := by decide +kernel
theorem dX0_init_39 : decode cX0_init 39 = .ok (.putfield 23, 3) := by decide +kernel
theorem dX0_init_42 : decode cX0_init 42 = .ok (.return_, 1) := by decide +kernel
theorem dX5_init_0 : decode cX5_init 0 = .ok (.aload_n 0, 1) := by decide +kernel
theorem dX5_init_1 : decode cX5_init 1 = .ok (.invokespecial 3, 3) := by decide +kernel
theorem dX5_init_4 : decode cX5_init 4 = .ok (.aload_n 0, 1) := by decide +kernel
theorem dX5_init_5 : decode cX5_init 5 = .ok (.bipush 8, 2) := by decide +kernel
theorem dX5_init_7 : decode cX5_init 7 = .ok (.newarray .int, 2) := by decide +kernel
theorem dX5_init_9 : decode cX5_init 9 = .ok (.putfield 9, 3) := by decide +kernel
theorem dX5_init_12 : decode cX5_init 12 = .ok (.aload_n 0, 1) := by decide +kernel
theorem dX5_init_13 : decode cX5_init 13 = .ok (.sipush 256, 3) := by decide +kernel
theorem dX5_init_16 : decode cX5_init 16 = .ok (.newarray .long, 2) := by decide +kernel
theorem dX5_init_18 : decode cX5_init 18 = .ok (.putfield 15, 3) := by decide +kernel
theorem dX5_init_21 : decode cX5_init 21 = .ok (.aload_n 0, 1) := by decide +kernel
theorem dX5_init_22 : decode cX5_init 22 = .ok (.sipush 256, 3) := by decide +kernel
theorem dX5_init_25 : decode cX5_init 25 = .ok (.newarray .long, 2) := by decide +kernel
theorem dX5_init_27 : decode cX5_init 27 = .ok (.putfield 19, 3) := by decide +kernel
theorem dX5_init_30 : decode cX5_init 30 = .ok (.return_, 1) := by decide +kernel
theorem dX2_init_0 : decode cX2_init 0 = .ok (.aload_n 0, 1) := by decide +kernel
theorem dX2_init_1 : decode cX2_init 1 = .ok (.invokespecial 3, 3) := by decide +kernel
theorem dX2_init_4 : decode cX2_init 4 = .ok (.aload_n 0, 1) := by decide +kernel
theorem dX2_init_5 : decode cX2_init 5 = .ok (.bipush (-6), 2) := by decide +kernel
theorem dX2_init_7 : decode cX2_init 7 = .ok (.putfield 9, 3) := by decide +kernel
theorem dX2_init_10 : decode cX2_init 10 = .ok (.aload_n 0, 1) := by decide +kernel
theorem dX2_init_11 : decode cX2_init 11 = .ok (.bipush 100, 2) := by decide +kernel
theorem dX2_init_13 : decode cX2_init 13 = .ok (.newarray .int, 2) := by decide +kernel
theorem dX2_init_15 : decode cX2_init 15 = .ok (.putfield 15, 3) := by decide +kernel
theorem dX2_init_18 : decode cX2_init 18 = .ok (.return_, 1) := by decide +kernel
theorem dX7_init_0 : decode cX7_init 0 = .ok (.aload_n 0, 1) := by decide +kernel
theorem dX7_init_1 : decode cX7_init 1 = .ok (.invokespecial 3, 3) := by decide +kernel
theorem dX7_init_4 : decode cX7_init 4 = .ok (.aload_n 0, 1) := by decide +kernel
theorem dX7_init_5 : decode cX7_init 5 = .ok (.bipush 50, 2) := by decide +kernel
theorem dX7_init_7 : decode cX7_init 7 = .ok (.putfield 9, 3) := by decide +kernel
theorem dX7_init_10 : decode cX7_init 10 = .ok (.aload_n 0, 1) := by decide +kernel
theorem dX7_init_11 : decode cX7_init 11 = .ok (.bipush 100, 2) := by decide +kernel
theorem dX7_init_13 : decode cX7_init 13 = .ok (.putfield 15, 3) := by decide +kernel
theorem dX7_init_16 : decode cX7_init 16 = .ok (.aload_n 0, 1) := by decide +kernel
theorem dX7_init_17 : decode cX7_init 17 = .ok (.bipush 10, 2) := by decide +kernel
theorem dX7_init_19 : decode cX7_init 19 = .ok (.newarray .int, 2) := by decide +kernel
theorem dX7_init_21 : decode cX7_init 21 = .ok (.putfield 18, 3) := by decide +kernel
theorem dX7_init_24 : decode cX7_init 24 = .ok (.aload_n 0, 1) := by decide +kernel
theorem dX7_init_25 : decode cX7_init 25 = .ok (.iconst 0, 1) := by decide +kernel
theorem dX7_init_26 : decode cX7_init 26 = .ok (.putfield 22, 3) := by decide +kernel
theorem dX7_init_29 : decode cX7_init 29 = .ok (.return_, 1) := by decide +kernel
theorem dX9_init_0 : decode cX9_init 0 = .ok (.aload_n 0, 1) := by decide +kernel
theorem dX9_init_1 : decode cX9_init 1 = .ok (.invokespecial 1, 3) := by decide +kernel
theorem dX9_init_4 : decode cX9_init 4 = .ok (.aload_n 0, 1) := by decide +kernel
theorem dX9_init_5 : decode cX9_init 5 = .ok (.bipush 9, 2) := by decide +kernel
theorem dX9_init_7 : decode cX9_init 7 = .ok (.newarray .int, 2) := by decide +kernel
theorem dX9_init_9 : decode cX9_init 9 = .ok (.dup, 1) := by decide +kernel
theorem dX9_init_10 : decode cX9_init 10 = .ok (.iconst 0, 1) := by decide +kernel
theorem dX9_init_11 : decode cX9_init 11 = .ok (.bipush 20, 2) := by decide +kernel
theorem dX9_init_13 : decode cX9_init 13 = .ok (.iastore, 1) := by decide +kernel
theorem dX9_init_14 : decode cX9_init 14 = .ok (.dup, 1) := by decide +kernel
theorem dX9_init_15 : decode cX9_init 15 = .ok (.iconst 1, 1) := by decide +kernel
theorem dX9_init_16 : decode cX9_init 16 = .ok (.iconst 5, 1) := by decide +kernel
theorem dX9_init_17 : decode cX9_init 17 = .ok (.iastore, 1) := by decide +kernel
theorem dX9_init_18 : decode cX9_init 18 = .ok (.dup, 1) := by decide +kernel
theorem dX9_init_19 : decode cX9_init 19 = .ok (.iconst 2, 1) := by decide +kernel
theorem dX9_init_20 : decode cX9_init 20 = .ok (.bipush 10, 2) := by decide +kernel
theorem dX9_init_22 : decode cX9_init 22 = .ok (.iastore, 1) := by decide +kernel
theorem dX9_init_23 : decode cX9_init 23 = .ok (.dup, 1) := by decide +kernel
theorem dX9_init_24 : decode cX9_init 24 = .ok (.iconst 3, 1) := by decide +kernel
theorem dX9_init_25 : decode cX9_init 25 = .ok (.sipush 500, 3) := by decide +kernel
theorem dX9_init_28 : decode cX9_init 28 = .ok (.iastore, 1) := by decide +kernel
theorem dX9_init_29 : decode cX9_init 29 = .ok (.dup, 1) := by decide +kernel
theorem dX9_init_30 : decode cX9_init 30 = .ok (.iconst 4, 1) := by decide +kernel
theorem dX9_init_31 : decode cX9_init 31 = .ok (.bipush 100, 2) := by decide +kernel
theorem dX9_init_33 : decode cX9_init 33 = .ok (.iastore, 1) := by decide +kernel
theorem dX9_init_34 : decode cX9_init 34 = .ok (.dup, 1) := by decide +kernel
theorem dX9_init_35 : decode cX9_init 35 = .ok (.iconst 5, 1) := by decide +kernel
theorem dX9_init_36 : decode cX9_init 36 = .ok (.iconst 3, 1) := by decide +kernel
theorem dX9_init_37 : decode cX9_init 37 = .ok (.iastore, 1) := by decide +kernel
theorem dX9_init_38 : decode cX9_init 38 = .ok (.dup, 1) := by decide +kernel
theorem dX9_init_39 : decode cX9_init 39 = .ok (.bipush 6, 2) := by decide +kernel
theorem dX9_init_41 : decode cX9_init 41 = .ok (.iconst 2, 1) := by decide +kernel
theorem dX9_init_42 : decode cX9_init 42 = .ok (.iastore, 1) := by decide +kernel
theorem dX9_init_43 : decode cX9_init 43 = .ok (.dup, 1) := by decide +kernel
theorem dX9_init_44 : decode cX9_init 44 = .ok (.bipush 7, 2) := by decide +kernel
theorem dX9_init_46 : decode cX9_init 46 = .ok (.iconst 1, 1) := by decide +kernel
theorem dX9_init_47 : decode cX9_init 47 = .ok (.iastore, 1) := by decide +kernel
theorem dX9_init_48 : decode cX9_init 48 = .ok (.dup, 1) := by decide +kernel
theorem dX9_init_49 : decode cX9_init 49 = .ok (.bipush 8, 2) := by decide +kernel
theorem dX9_init_51 : decode cX9_init 51 = .ok (.iconst 0, 1) := by decide +kernel
theorem dX9_init_52 : decode cX9_init 52 = .ok (.iastore, 1) := by decide +kernel
theorem dX9_init_53 : decode cX9_init 53 = .ok (.putfield 7, 3) := by decide +kernel
theorem dX9_init_56 : decode cX9_init 56 = .ok (.aload_n 0, 1) := by decide +kernel
theorem dX9_init_57 : decode cX9_init 57 = .ok (.bipush 8, 2) := by decide +kernel
theorem dX9_init_59 : decode cX9_init 59 = .ok (.anewarray 13, 3) := by decide +kernel
theorem dX9_init_62 : decode cX9_init 62 = .ok (.putfield 15, 3) := by decide +kernel
theorem dX9_init_65 : decode cX9_init 65 = .ok (.aload_n 0, 1) := by decide +kernel
theorem dX9_init_66 : decode cX9_init 66 = .ok (.iconst 0, 1) := by decide +kernel
theorem dX9_init_67 : decode cX9_init 67 = .ok (.putfield 19, 3) := by decide +kernel
theorem dX9_init_70 : decode cX9_init 70 = .ok (.aload_n 0, 1) := by decide +kernel
theorem dX9_init_71 : decode cX9_init 71 = .ok (.bipush 24, 2) := by decide +kernel
theorem dX9_init_73 : decode cX9_init 73 = .ok (.anewarray 23, 3) := by decide +kernel
theorem dX9_init_76 : decode cX9_init 76 = .ok (.putfield 25, 3) := by decide +kernel
theorem dX9_init_79 : decode cX9_init 79 = .ok (.aload_n 0, 1) := by decide +kernel
theorem dX9_init_80 : decode cX9_init 80 = .ok (.iconst 0, 1) := by decide +kernel
theorem dX9_init_81 : decode cX9_init 81 = .ok (.putfield 29, 3) := by decide +kernel
theorem dX9_init_84 : decode cX9_init 84 = .ok (.aload_n 0, 1) := by decide +kernel
theorem dX9_init_85 : decode cX9_init 85 = .ok (.bipush 24, 2) := by decide +kernel
theorem dX9_init_87 : decode cX9_init 87 = .ok (.anewarray 23, 3) := by decide +kernel
theorem dX9_init_90 : decode cX9_init 90 = .ok (.putfield 32, 3) := by decide +kernel
theorem dX9_init_93 : decode cX9_init 93 = .ok (.aload_n 0, 1) := by decide +kernel
theorem dX9_init_94 : decode cX9_init 94 = .ok (.bipush 10, 2) := by decide +kernel
theorem dX9_init_96 : decode cX9_init 96 = .ok (.anewarray 35, 3) := by decide +kernel
theorem dX9_init_99 : decode cX9_init 99 = .ok (.putfield 37, 3) := by decide +kernel
theorem dX9_init_102 : decode cX9_init 102 = .ok (.aload_n 0, 1) := by decide +kernel
theorem dX9_init_103 : decode cX9_init 103 = .ok (.iconst 0, 1) := by decide +kernel
theorem dX9_init_104 : decode cX9_init 104 = .ok (.putfield 41, 3) := by decide +kernel
theorem dX9_init_107 : decode cX9_init 107 = .ok (.aload_n 0, 1) := by decide +kernel
theorem dX9_init_108 : decode cX9_init 108 = .ok (.new 44, 3) := by decide +kernel
theorem dX9_init_111 : decode cX9_init 111 = .ok (.dup, 1) := by decide +kernel
theorem dX9_init_112 : decode cX9_init 112 = .ok (.invokespecial 46, 3) := by decide +kernel
theorem dX9_init_115 : decode cX9_init 115 = .ok (.putfield 47, 3) := by decide +kernel
theorem dX9_init_118 : decode cX9_init 118 = .ok (.aload_n 0, 1) := by decide +kernel
theorem dX9_init_119 : decode cX9_init 119 = .ok (.new 51, 3) := by decide +kernel
theorem dX9_init_122 : decode cX9_init 122 = .ok (.dup, 1) := by decide +kernel
theorem dX9_init_123 : decode cX9_init 123 = .ok (.invokespecial 53, 3) := by decide +kernel
theorem dX9_init_126 : decode cX9_init 126 = .ok (.putfield 54, 3) := by decide +kernel
theorem dX9_init_129 : decode cX9_init 129 = .ok (.aload_n 0, 1) := by decide +kernel
theorem dX9_init_130 : decode cX9_init 130 = .ok (.bipush 24, 2) := by decide +kernel
theorem dX9_init_132 : decode cX9_init 132 = .ok (.newarray .int, 2) := by decide +kernel
theorem dX9_init_134 : decode cX9_init 134 = .ok (.putfield 58, 3) := by decide +kernel
theorem dX9_init_137 : decode cX9_init 137 = .ok (.aload_n 0, 1) := by decide +kernel
theorem dX9_init_138 : decode cX9_init 138 = .ok (.iconst 0, 1) := by decide +kernel
theorem dX9_init_139 : decode cX9_init 139 = .ok (.putfield 61, 3) := by decide +kernel
theorem dX9_init_142 : decode cX9_init 142 = .ok (.aload_n 0, 1) := by decide +kernel
theorem dX9_init_143 : decode cX9_init 143 = .ok (.iconst 4, 1) := by decide +kernel
theorem dX9_init_144 : decode cX9_init 144 = .ok (.anewarray 64, 3) := by decide +kernel
theorem dX9_init_147 : decode cX9_init 147 = .ok (.putfield 66, 3) := by decide +kernel
theorem dX9_init_150 : decode cX9_init 150 = .ok (.aload_n 0, 1) := by decide +kernel
theorem dX9_init_151 : decode cX9_init 151 = .ok (.new 70, 3) := by decide +kernel
theorem dX9_init_154 : decode cX9_init 154 = .ok (.dup, 1) := by decide +kernel
theorem dX9_init_155 : decode cX9_init 155 = .ok (.invokespecial 72, 3) := by decide +kernel
theorem dX9_init_158 : decode cX9_init 158 = .ok (.putfield 73, 3) := by decide +kernel
theorem dX9_init_161 : decode cX9_init 161 = .ok (.aload_n 0, 1) := by decide +kernel
theorem dX9_init_162 : decode cX9_init 162 = .ok (.iconst 4, 1) := by decide +kernel
theorem dX9_init_163 : decode cX9_init 163 = .ok (.anewarray 77, 3) := by decide +kernel
theorem dX9_init_166 : decode cX9_init 166 = .ok (.putfield 79, 3) := by decide +kernel
theorem dX9_init_169 : decode cX9_init 169 = .ok (.aload_n 0, 1) := by decide +kernel
theorem dX9_init_170 : decode cX9_init 170 = .ok (.new 83, 3) := by decide +kernel
theorem dX9_init_173 : decode cX9_init 173 = .ok (.dup, 1) := by decide +kernel
theorem dX9_init_174 : decode cX9_init 174 = .ok (.invokespecial 85, 3) := by decide +kernel
theorem dX9_init_177 : decode cX9_init 177 = .ok (.putfield 86, 3) := by decide +kernel
theorem dX9_init_180 : decode cX9_init 180 = .ok (.aload_n 0, 1) := by decide +kernel
theorem dX9_init_181 : decode cX9_init 181 = .ok (.bipush 6, 2) := by decide +kernel
theorem dX9_init_183 : decode cX9_init 183 = .ok (.newarray .int, 2) := by decide +kernel
theorem dX9_init_185 : decode cX9_init 185 = .ok (.putfield 90, 3) := by decide +kernel
theorem dX9_init_188 : decode cX9_init 188 = .ok (.iconst 0, 1) := by decide +kernel
theorem dX9_init_189 : decode cX9_init 189 = .ok (.istore_n 1, 1) := by decide +kernel
theorem dX9_init_190 : decode cX9_init 190 = .ok (.iload_n 1, 1) := by decide +kernel
theorem dX9_init_191 : decode cX9_init 191 = .ok (.iconst 4, 1) := by decide +kernel
theorem dX9_init_192 : decode cX9_init 192 = .ok (.if_icmp .ge 22, 3) := by decide +kernel
theorem dX9_init_195 : decode cX9_init 195 = .ok (.aload_n 0, 1) := by decide +kernel
theorem dX9_init_196 : decode cX9_init 196 = .ok (.getfield 66, 3) := by decide +kernel
theorem dX9_init_199 : decode cX9_init 199 = .ok (.iload_n 1, 1) := by decide +kernel
theorem dX9_init_200 : decode cX9_init 200 = .ok (.new 64, 3) := by decide +kernel
theorem dX9_init_203 : decode cX9_init 203 = .ok (.dup, 1) := by decide +kernel
theorem dX9_init_204 : decode cX9_init 204 = .ok (.invokespecial 93, 3) := by decide +kernel
theorem dX9_init_207 : decode cX9_init 207 = .ok (.aastore, 1) := by decide +kernel
theorem dX9_init_208 : decode cX9_init 208 = .ok (.iinc 1 1, 3) := by decide +kernel
theorem dX9_init_211 : decode cX9_init 211 = .ok (.goto (-21), 3) := by decide +kernel
theorem dX9_init_214 : decode cX9_init 214 = .ok (.iconst 0, 1) := by decide +kernel
theorem dX9_init_215 : decode cX9_init 215 = .ok (.istore_n 1, 1) := by decide +kernel
theorem dX9_init_216 : decode cX9_init 216 = .ok (.iload_n 1, 1) := by decide +kernel
theorem dX9_init_217 : decode cX9_init 217 = .ok (.iconst 4, 1) := by decide +kernel
theorem dX9_init_218 : decode cX9_init 218 = .ok (.if_icmp .ge 22, 3) := by decide +kernel
theorem dX9_init_221 : decode cX9_init 221 = .ok (.aload_n 0, 1) := by decide +kernel
theorem dX9_init_222 : decode cX9_init 222 = .ok (.getfield 79, 3) := by decide +kernel
theorem dX9_init_225 : decode cX9_init 225 = .ok (.iload_n 1, 1) := by decide +kernel
theorem dX9_init_226 : decode cX9_init 226 = .ok (.new 77, 3) := by decide +kernel
theorem dX9_init_229 : decode cX9_init 229 = .ok (.dup, 1) := by decide +kernel
theorem dX9_init_230 : decode cX9_init 230 = .ok (.invokespecial 94, 3) := by decide +kernel
theorem dX9_init_233 : decode cX9_init 233 = .ok (.aastore, 1) := by decide +kernel
theorem dX9_init_234 : decode cX9_init 234 = .ok (.iinc 1 1, 3) := by decide +kernel
theorem dX9_init_237 : decode cX9_init 237 = .ok (.goto (-21), 3) := by decide +kernel
theorem dX9_init_240 : decode cX9_init 240 = .ok (.return_, 1) := by decide +kernel
theorem dX9_within_0 : decode cX9_within 0 = .ok (.iload_n 0, 1) := by decide +kernel
theorem dX9_within_1 : decode cX9_within 1 = .ok (.iload_n 1, 1) := by decide +kernel
theorem dX9_within_2 : decode cX9_within 2 = .ok (.if_icmp .lt 12, 3) := by decide +kernel
theorem dX9_within_5 : decode cX9_within 5 = .ok (.iload_n 0, 1) := by decide +kernel
theorem dX9_within_6 : decode cX9_within 6 = .ok (.iload_n 2, 1) := by decide +kernel
theorem dX9_within_7 : decode cX9_within 7 = .ok (.if_icmp .gt 7, 3) := by decide +kernel
theorem dX9_within_10 : decode cX9_within 10 = .ok (.iconst 1, 1) := by decide +kernel
theorem dX9_within_11 : decode cX9_within 11 = .ok (.goto 4, 3) := by decide +kernel
theorem dX9_within_14 : decode cX9_within 14 = .ok (.iconst 0, 1) := by decide +kernel
theorem dX9_within_15 : decode cX9_within 15 = .ok (.ireturn, 1) := by decide +kernel
theorem dX9_isDay_0 : decode cX9_isDay 0 = .ok (.iload_n 0, 1) := by decide +kernel
theorem dX9_isDay_1 : decode cX9_isDay 1 = .ok (.iconst 0, 1) := by decide +kernel
theorem dX9_isDay_2 : decode cX9_isDay 2 = .ok (.bipush 99, 2) := by decide +kernel
theorem dX9_isDay_4 : decode cX9_isDay 4 = .ok (.invokestatic 95, 3) := by decide +kernel
theorem dX9_isDay_7 : decode cX9_isDay 7 = .ok (.ireturn, 1) := by decide +kernel
theorem dX4_init_0 : decode cX4_init 0 = .ok (.aload_n 0, 1) := by decide +kernel
theorem dX4_init_1 : decode cX4_init 1 = .ok (.invokespecial 3, 3) := by decide +kernel
theorem dX4_init_4 : decode cX4_init 4 = .ok (.aload_n 0, 1) := by decide +kernel
theorem dX4_init_5 : decode cX4_init 5 = .ok (.bipush 60, 2) := by decide +kernel
theorem dX4_init_7 : decode cX4_init 7 = .ok (.newarray .int, 2) := by decide +kernel
theorem dX4_init_9 : decode cX4_init 9 = .ok (.putfield 9, 3) := by decide +kernel
theorem dX4_init_12 : decode cX4_init 12 = .ok (.aload_n 0, 1) := by decide +kernel
theorem dX4_init_13 : decode cX4_init 13 = .ok (.aconst_null, 1) := by decide +kernel
theorem dX4_init_14 : decode cX4_init 14 = .ok (.putfield 15, 3) := by decide +kernel
theorem dX4_init_17 : decode cX4_init 17 = .ok (.aload_n 0, 1) := by decide +kernel
theorem dX4_init_18 : decode cX4_init 18 = .ok (.iload_n 1, 1) := by decide +kernel
theorem dX4_init_19 : decode cX4_init 19 = .ok (.putfield 19, 3) := by decide +kernel
theorem dX4_init_22 : decode cX4_init 22 = .ok (.aload_n 0, 1) := by decide +kernel
theorem dX4_init_23 : decode cX4_init 23 = .ok (.iload_n 2, 1) := by decide +kernel
theorem dX4_init_24 : decode cX4_init 24 = .ok (.putfield 23, 3) := by decide +kernel
theorem dX4_init_27 : decode cX4_init 27 = .ok (.aload_n 0, 1) := by decide +kernel
theorem dX4_init_28 : decode cX4_init 28 = .ok (.iload_n 3, 1) := by decide +kernel
theorem dX4_init_29 : decode cX4_init 29 = .ok (.putfield 26, 3) := by decide +kernel
theorem dX4_init_32 : decode cX4_init 32 = .ok (.iconst 0, 1) := by decide +kernel
theorem dX4_init_33 : decode cX4_init 33 = .ok (.istore 4, 2) := by decide +kernel
theorem dX4_init_35 : decode cX4_init 35 = .ok (.iload 4, 2) := by decide +kernel
theorem dX4_init_37 : decode cX4_init 37 = .ok (.bipush 60, 2) := by decide +kernel
theorem dX4_init_39 : decode cX4_init 39 = .ok (.if_icmp .ge 18, 3) := by decide +kernel
theorem dX4_init_42 : decode cX4_init 42 = .ok (.aload_n 0, 1) := by decide +kernel
theorem dX4_init_43 : decode cX4_init 43 = .ok (.getfield 9, 3) := by decide +kernel
theorem dX4_init_46 : decode cX4_init 46 = .ok (.iload 4, 2) := by decide +kernel
theorem dX4_init_48 : decode cX4_init 48 = .ok (.bipush (-6), 2) := by decide +kernel
theorem dX4_init_50 : decode cX4_init 50 = .ok (.iastore, 1) := by decide +kernel
theorem dX4_init_51 : decode cX4_init 51 = .ok (.iinc 4 1, 3) := by decide +kernel
theorem dX4_init_54 : decode cX4_init 54 = .ok (.goto (-19), 3) := by decide +kernel
theorem dX4_init_57 : decode cX4_init 57 = .ok (.return_, 1) := by decide +kernel
theorem dX9_page_0 : decode cX9_page 0 = .ok (.iload_n 1, 1) := by decide +kernel
theorem dX9_page_1 : decode cX9_page 1 = .ok (.iconst 0, 1) := by decide +kernel
theorem dX9_page_2 : decode cX9_page 2 = .ok (.bipush 9, 2) := by decide +kernel
theorem dX9_page_4 : decode cX9_page 4 = .ok (.invokestatic 95, 3) := by decide +kernel
theorem dX9_page_7 : decode cX9_page 7 = .ok (.ifCond .eq 10, 3) := by decide +kernel
theorem dX9_page_10 : decode cX9_page 10 = .ok (.iload_n 2, 1) := by decide +kernel
theorem dX9_page_11 : decode cX9_page 11 = .ok (.invokestatic 99, 3) := by decide +kernel
theorem dX9_page_14 : decode cX9_page 14 = .ok (.ifCond .ne 6, 3) := by decide +kernel
theorem dX9_page_17 : decode cX9_page 17 = .ok (.bipush (-2), 2) := by decide +kernel
theorem dX9_page_19 : decode cX9_page 19 = .ok (.ireturn, 1) := by decide +kernel
theorem dX9_page_20 : decode cX9_page 20 = .ok (.aload_n 0, 1) := by decide +kernel
theorem dX9_page_21 : decode cX9_page 21 = .ok (.getfield 19, 3) := by decide +kernel
theorem dX9_page_24 : decode cX9_page 24 = .ok (.bipush 8, 2) := by decide +kernel
theorem dX9_page_26 : decode cX9_page 26 = .ok (.if_icmp .lt 6, 3) := by decide +kernel
theorem dX9_page_29 : decode cX9_page 29 = .ok (.bipush (-4), 2) := by decide +kernel
theorem dX9_page_31 : decode cX9_page 31 = .ok (.ireturn, 1) := by decide +kernel
theorem dX9_page_32 : decode cX9_page 32 = .ok (.aload_n 0, 1) := by decide +kernel
theorem dX9_page_33 : decode cX9_page 33 = .ok (.getfield 15, 3) := by decide +kernel
theorem dX9_page_36 : decode cX9_page 36 = .ok (.aload_n 0, 1) := by decide +kernel
theorem dX9_page_37 : decode cX9_page 37 = .ok (.getfield 19, 3) := by decide +kernel
theorem dX9_page_40 : decode cX9_page 40 = .ok (.new 13, 3) := by decide +kernel
theorem dX9_page_43 : decode cX9_page 43 = .ok (.dup, 1) := by decide +kernel
theorem dX9_page_44 : decode cX9_page 44 = .ok (.aload_n 0, 1) := by decide +kernel
theorem dX9_page_45 : decode cX9_page 45 = .ok (.getfield 19, 3) := by decide +kernel
theorem dX9_page_48 : decode cX9_page 48 = .ok (.iload_n 1, 1) := by decide +kernel
theorem dX9_page_49 : decode cX9_page 49 = .ok (.iload_n 2, 1) := by decide +kernel
theorem dX9_page_50 : decode cX9_page 50 = .ok (.invokespecial 103, 3) := by decide +kernel
theorem dX9_page_53 : decode cX9_page 53 = .ok (.aastore, 1) := by decide +kernel
theorem dX9_page_54 : decode cX9_page 54 = .ok (.aload_n 0, 1) := by decide +kernel
theorem dX9_page_55 : decode cX9_page 55 = .ok (.dup, 1) := by decide +kernel
theorem dX9_page_56 : decode cX9_page 56 = .ok (.getfield 19, 3) := by decide +kernel
theorem dX9_page_59 : decode cX9_page 59 = .ok (.dup_x1, 1) := by decide +kernel
theorem dX9_page_60 : decode cX9_page 60 = .ok (.iconst 1, 1) := by decide +kernel
theorem dX9_page_61 : decode cX9_page 61 = .ok (.iadd, 1) := by decide +kernel
theorem dX9_page_62 : decode cX9_page 62 = .ok (.putfield 19, 3) := by decide +kernel
theorem dX9_page_65 : decode cX9_page 65 = .ok (.ireturn, 1) := by decide +kernel
theorem dX9_pageOf_0 : decode cX9_pageOf 0 = .ok (.iload_n 1, 1) := by decide +kernel
theorem dX9_pageOf_1 : decode cX9_pageOf 1 = .ok (.iconst 0, 1) := by decide +kernel
theorem dX9_pageOf_2 : decode cX9_pageOf 2 = .ok (.aload_n 0, 1) := by decide +kernel
theorem dX9_pageOf_3 : decode cX9_pageOf 3 = .ok (.getfield 19, 3) := by decide +kernel
theorem dX9_pageOf_6 : decode cX9_pageOf 6 = .ok (.iconst 1, 1) := by decide +kernel
theorem dX9_pageOf_7 : decode cX9_pageOf 7 = .ok (.isub, 1) := by decide +kernel
theorem dX9_pageOf_8 : decode cX9_pageOf 8 = .ok (.invokestatic 95, 3) := by decide +kernel
theorem dX9_pageOf_11 : decode cX9_pageOf 11 = .ok (.ifCond .eq 12, 3) := by decide +kernel
theorem dX9_pageOf_14 : decode cX9_pageOf 14 = .ok (.aload_n 0, 1) := by decide +kernel
theorem dX9_pageOf_15 : decode cX9_pageOf 15 = .ok (.getfield 15, 3) := by decide +kernel
theorem dX9_pageOf_18 : decode cX9_pageOf 18 = .ok (.iload_n 1, 1) := by decide +kernel
theorem dX9_pageOf_19 : decode cX9_pageOf 19 = .ok (.aaload, 1) := by decide +kernel
theorem dX9_pageOf_20 : decode cX9_pageOf 20 = .ok (.goto 4, 3) := by decide +kernel
theorem dX9_pageOf_23 : decode cX9_pageOf 23 = .ok (.aconst_null, 1) := by decide +kernel
theorem dX9_pageOf_24 : decode cX9_pageOf 24 = .ok (.areturn, 1) := by decide +kernel
theorem dX9_isWordOrNone_0 : decode cX9_isWordOrNone 0 = .ok (.iload_n 0, 1) := by decide +kernel
theorem dX9_isWordOrNone_1 : decode cX9_isWordOrNone 1 = .ok (.iconst (-1), 1) := by decide +kernel
theorem dX9_isWordOrNone_2 : decode cX9_isWordOrNone 2 = .ok (.bipush 99, 2) := by decide +kernel
theorem dX9_isWordOrNone_4 : decode cX9_isWordOrNone 4 = .ok (.invokestatic 95, 3) := by decide +kernel
theorem dX9_isWordOrNone_7 : decode cX9_isWordOrNone 7 = .ok (.ireturn, 1) := by decide +kernel
theorem dX9_isKept_0 : decode cX9_isKept 0 = .ok (.iconst 0, 1) := by decide +kernel
theorem dX9_isKept_1 : decode cX9_isKept 1 = .ok (.istore_n 2, 1) := by decide +kernel
theorem dX9_isKept_2 : decode cX9_isKept 2 = .ok (.iload_n 2, 1) := by decide +kernel
theorem dX9_isKept_3 : decode cX9_isKept 3 = .ok (.aload_n 0, 1) := by decide +kernel
theorem dX9_isKept_4 : decode cX9_isKept 4 = .ok (.getfield 29, 3) := by decide +kernel
theorem dX9_isKept_7 : decode cX9_isKept 7 = .ok (.if_icmp .ge 48, 3) := by decide +kernel
theorem dX9_isKept_10 : decode cX9_isKept 10 = .ok (.aload_n 0, 1) := by decide +kernel
theorem dX9_isKept_11 : decode cX9_isKept 11 = .ok (.getfield 25, 3) := by decide +kernel
theorem dX9_isKept_14 : decode cX9_isKept 14 = .ok (.iload_n 2, 1) := by decide +kernel
theorem dX9_isKept_15 : decode cX9_isKept 15 = .ok (.aaload, 1) := by decide +kernel
theorem dX9_isKept_16 : decode cX9_isKept 16 = .ok (.getfield 166, 3) := by decide +kernel
theorem dX9_isKept_19 : decode cX9_isKept 19 = .ok (.aload_n 1, 1) := by decide +kernel
theorem dX9_isKept_20 : decode cX9_isKept 20 = .ok (.if_acmp .ne 29, 3) := by decide +kernel
theorem dX9_isKept_23 : decode cX9_isKept 23 = .ok (.aload_n 0, 1) := by decide +kernel
theorem dX9_isKept_24 : decode cX9_isKept 24 = .ok (.getfield 25, 3) := by decide +kernel
theorem dX9_isKept_27 : decode cX9_isKept 27 = .ok (.iload_n 2, 1) := by decide +kernel
theorem dX9_isKept_28 : decode cX9_isKept 28 = .ok (.aaload, 1) := by decide +kernel
theorem dX9_isKept_29 : decode cX9_isKept 29 = .ok (.getfield 174, 3) := by decide +kernel
theorem dX9_isKept_32 : decode cX9_isKept 32 = .ok (.ifCond .ne 15, 3) := by decide +kernel
theorem dX9_isKept_35 : decode cX9_isKept 35 = .ok (.aload_n 0, 1) := by decide +kernel
theorem dX9_isKept_36 : decode cX9_isKept 36 = .ok (.getfield 25, 3) := by decide +kernel
theorem dX9_isKept_39 : decode cX9_isKept 39 = .ok (.iload_n 2, 1) := by decide +kernel
theorem dX9_isKept_40 : decode cX9_isKept 40 = .ok (.aaload, 1) := by decide +kernel
theorem dX9_isKept_41 : decode cX9_isKept 41 = .ok (.getfield 172, 3) := by decide +kernel
theorem dX9_isKept_44 : decode cX9_isKept 44 = .ok (.ifCond .eq 5, 3) := by decide +kernel
theorem dX9_isKept_47 : decode cX9_isKept 47 = .ok (.iconst 1, 1) := by decide +kernel
theorem dX9_isKept_48 : decode cX9_isKept 48 = .ok (.ireturn, 1) := by decide +kernel
theorem dX9_isKept_49 : decode cX9_isKept 49 = .ok (.iinc 2 1, 3) := by decide +kernel
theorem dX9_isKept_52 : decode cX9_isKept 52 = .ok (.goto (-50), 3) := by decide +kernel
theorem dX9_isKept_55 : decode cX9_isKept 55 = .ok (.iconst 0, 1) := by decide +kernel
theorem dX9_isKept_56 : decode cX9_isKept 56 = .ok (.ireturn, 1) := by decide +kernel
theorem dX6_readWords_0 : decode cX6_readWords 0 = .ok (.aload_n 0, 1) := by decide +kernel
theorem dX6_readWords_1 : decode cX6_readWords 1 = .ok (.iconst 0, 1) := by decide +kernel
theorem dX6_readWords_2 : decode cX6_readWords 2 = .ok (.putfield 15, 3) := by decide +kernel
theorem dX6_readWords_5 : decode cX6_readWords 5 = .ok (.aload_n 0, 1) := by decide +kernel
theorem dX6_readWords_6 : decode cX6_readWords 6 = .ok (.getfield 38, 3) := by decide +kernel
theorem dX6_readWords_9 : decode cX6_readWords 9 = .ok (.istore_n 1, 1) := by decide +kernel
theorem dX6_readWords_10 : decode cX6_readWords 10 = .ok (.iload_n 1, 1) := by decide +kernel
theorem dX6_readWords_11 : decode cX6_readWords 11 = .ok (.aload_n 0, 1) := by decide +kernel
theorem dX6_readWords_12 : decode cX6_readWords 12 = .ok (.getfield 41, 3) := by decide +kernel
theorem dX6_readWords_15 : decode cX6_readWords 15 = .ok (.if_icmp .gt 69, 3) := by decide +kernel
theorem dX6_readWords_18 : decode cX6_readWords 18 = .ok (.aload_n 0, 1) := by decide +kernel
theorem dX6_readWords_19 : decode cX6_readWords 19 = .ok (.getfield 44, 3) := by decide +kernel
theorem dX6_readWords_22 : decode cX6_readWords 22 = .ok (.istore_n 2, 1) := by decide +kernel
theorem dX6_readWords_23 : decode cX6_readWords 23 = .ok (.iload_n 2, 1) := by decide +kernel
theorem dX6_readWords_24 : decode cX6_readWords 24 = .ok (.aload_n 0, 1) := by decide +kernel
theorem dX6_readWords_25 : decode cX6_readWords 25 = .ok (.getfield 47, 3) := by decide +kernel
theorem dX6_readWords_28 : decode cX6_readWords 28 = .ok (.if_icmp .gt 50, 3) := by decide +kernel
theorem dX6_readWords_31 : decode cX6_readWords 31 = .ok (.aload_n 0, 1) := by decide +kernel
theorem dX6_readWords_32 : decode cX6_readWords 32 = .ok (.getfield 34, 3) := by decide +kernel
theorem dX6_readWords_35 : decode cX6_readWords 35 = .ok (.getfield 50, 3) := by decide +kernel
theorem dX6_readWords_38 : decode cX6_readWords 38 = .ok (.iload_n 1, 1) := by decide +kernel
theorem dX6_readWords_39 : decode cX6_readWords 39 = .ok (.bipush 10, 2) := by decide +kernel
theorem dX6_readWords_41 : decode cX6_readWords 41 = .ok (.imul, 1) := by decide +kernel
theorem dX6_readWords_42 : decode cX6_readWords 42 = .ok (.iload_n 2, 1) := by decide +kernel
theorem dX6_readWords_43 : decode cX6_readWords 43 = .ok (.iadd, 1) := by decide +kernel
theorem dX6_readWords_44 : decode cX6_readWords 44 = .ok (.iaload, 1) := by decide +kernel
theorem dX6_readWords_45 : decode cX6_readWords 45 = .ok (.istore_n 3, 1) := by decide +kernel
theorem dX6_readWords_46 : decode cX6_readWords 46 = .ok (.iload_n 3, 1) := by decide +kernel
theorem dX6_readWords_47 : decode cX6_readWords 47 = .ok (.bipush (-6), 2) := by decide +kernel
theorem dX6_readWords_49 : decode cX6_readWords 49 = .ok (.if_icmp .eq 23, 3) := by decide +kernel
theorem dX6_readWords_52 : decode cX6_readWords 52 = .ok (.aload_n 0, 1) := by decide +kernel
theorem dX6_readWords_53 : decode cX6_readWords 53 = .ok (.getfield 9, 3) := by decide +kernel
theorem dX6_readWords_56 : decode cX6_readWords 56 = .ok (.aload_n 0, 1) := by decide +kernel
theorem dX6_readWords_57 : decode cX6_readWords 57 = .ok (.getfield 15, 3) := by decide +kernel
theorem dX6_readWords_60 : decode cX6_readWords 60 = .ok (.iload_n 3, 1) := by decide +kernel
theorem dX6_readWords_61 : decode cX6_readWords 61 = .ok (.iastore, 1) := by decide +kernel
theorem dX6_readWords_62 : decode cX6_readWords 62 = .ok (.aload_n 0, 1) := by decide +kernel
theorem dX6_readWords_63 : decode cX6_readWords 63 = .ok (.dup, 1) := by decide +kernel
theorem dX6_readWords_64 : decode cX6_readWords 64 = .ok (.getfield 15, 3) := by decide +kernel
theorem dX6_readWords_67 : decode cX6_readWords 67 = .ok (.iconst 1, 1) := by decide +kernel
theorem dX6_readWords_68 : decode cX6_readWords 68 = .ok (.iadd, 1) := by decide +kernel
theorem dX6_readWords_69 : decode cX6_readWords 69 = .ok (.putfield 15, 3) := by decide +kernel
theorem dX6_readWords_72 : decode cX6_readWords 72 = .ok (.iinc 2 1, 3) := by decide +kernel
theorem dX6_readWords_75 : decode cX6_readWords 75 = .ok (.goto (-52), 3) := by decide +kernel
theorem dX6_readWords_78 : decode cX6_readWords 78 = .ok (.iinc 1 1, 3) := by decide +kernel
theorem dX6_readWords_81 : decode cX6_readWords 81 = .ok (.goto (-71), 3) := by decide +kernel
theorem dX6_readWords_84 : decode cX6_readWords 84 = .ok (.return_, 1) := by decide +kernel
theorem dX9_readAgain_0 : decode cX9_readAgain 0 = .ok (.iconst 0, 1) := by decide +kernel
theorem dX9_readAgain_1 : decode cX9_readAgain 1 = .ok (.istore_n 2, 1) := by decide +kernel
theorem dX9_readAgain_2 : decode cX9_readAgain 2 = .ok (.iload_n 2, 1) := by decide +kernel
theorem dX9_readAgain_3 : decode cX9_readAgain 3 = .ok (.aload_n 0, 1) := by decide +kernel
theorem dX9_readAgain_4 : decode cX9_readAgain 4 = .ok (.getfield 29, 3) := by decide +kernel
theorem dX9_readAgain_7 : decode cX9_readAgain 7 = .ok (.if_icmp .ge 31, 3) := by decide +kernel
theorem dX9_readAgain_10 : decode cX9_readAgain 10 = .ok (.aload_n 0, 1) := by decide +kernel
theorem dX9_readAgain_11 : decode cX9_readAgain 11 = .ok (.getfield 25, 3) := by decide +kernel
theorem dX9_readAgain_14 : decode cX9_readAgain 14 = .ok (.iload_n 2, 1) := by decide +kernel
theorem dX9_readAgain_15 : decode cX9_readAgain 15 = .ok (.aaload, 1) := by decide +kernel
theorem dX9_readAgain_16 : decode cX9_readAgain 16 = .ok (.getfield 166, 3) := by decide +kernel
theorem dX9_readAgain_19 : decode cX9_readAgain 19 = .ok (.aload_n 1, 1) := by decide +kernel
theorem dX9_readAgain_20 : decode cX9_readAgain 20 = .ok (.if_acmp .ne 12, 3) := by decide +kernel
theorem dX9_readAgain_23 : decode cX9_readAgain 23 = .ok (.aload_n 0, 1) := by decide +kernel
theorem dX9_readAgain_24 : decode cX9_readAgain 24 = .ok (.getfield 25, 3) := by decide +kernel
theorem dX9_readAgain_27 : decode cX9_readAgain 27 = .ok (.iload_n 2, 1) := by decide +kernel
theorem dX9_readAgain_28 : decode cX9_readAgain 28 = .ok (.aaload, 1) := by decide +kernel
theorem dX9_readAgain_29 : decode cX9_readAgain 29 = .ok (.invokevirtual 151, 3) := by decide +kernel
theorem dX9_readAgain_32 : decode cX9_readAgain 32 = .ok (.iinc 2 1, 3) := by decide +kernel
theorem dX9_readAgain_35 : decode cX9_readAgain 35 = .ok (.goto (-33), 3) := by decide +kernel
theorem dX9_readAgain_38 : decode cX9_readAgain 38 = .ok (.return_, 1) := by decide +kernel
theorem dX9_write_0 : decode cX9_write 0 = .ok (.aload_n 0, 1) := by decide +kernel
theorem dX9_write_1 : decode cX9_write 1 = .ok (.iload_n 1, 1) := by decide +kernel
theorem dX9_write_2 : decode cX9_write 2 = .ok (.invokevirtual 106, 3) := by decide +kernel
theorem dX9_write_5 : decode cX9_write 5 = .ok (.astore 4, 2) := by decide +kernel
theorem dX9_write_7 : decode cX9_write 7 = .ok (.aload 4, 2) := by decide +kernel
theorem dX9_write_9 : decode cX9_write 9 = .ok (.ifnonnull 5, 3) := by decide +kernel
theorem dX9_write_12 : decode cX9_write 12 = .ok (.iconst (-1), 1) := by decide +kernel
theorem dX9_write_13 : decode cX9_write 13 = .ok (.ireturn, 1) := by decide +kernel
theorem dX9_write_14 : decode cX9_write 14 = .ok (.iload_n 2, 1) := by decide +kernel
theorem dX9_write_15 : decode cX9_write 15 = .ok (.iconst 0, 1) := by decide +kernel
theorem dX9_write_16 : decode cX9_write 16 = .ok (.bipush 59, 2) := by decide +kernel
theorem dX9_write_18 : decode cX9_write 18 = .ok (.invokestatic 95, 3) := by decide +kernel
theorem dX9_write_21 : decode cX9_write 21 = .ok (.ifCond .eq 10, 3) := by decide +kernel
theorem dX9_write_24 : decode cX9_write 24 = .ok (.iload_n 3, 1) := by decide +kernel
theorem dX9_write_25 : decode cX9_write 25 = .ok (.invokestatic 110, 3) := by decide +kernel
theorem dX9_write_28 : decode cX9_write 28 = .ok (.ifCond .ne 6, 3) := by decide +kernel
theorem dX9_write_31 : decode cX9_write 31 = .ok (.bipush (-2), 2) := by decide +kernel
theorem dX9_write_33 : decode cX9_write 33 = .ok (.ireturn, 1) := by decide +kernel
theorem dX9_write_34 : decode cX9_write 34 = .ok (.aload_n 0, 1) := by decide +kernel
theorem dX9_write_35 : decode cX9_write 35 = .ok (.aload 4, 2) := by decide +kernel
theorem dX9_write_37 : decode cX9_write 37 = .ok (.invokevirtual 113, 3) := by decide +kernel
theorem dX9_write_40 : decode cX9_write 40 = .ok (.ifCond .eq 6, 3) := by decide +kernel
theorem dX9_write_43 : decode cX9_write 43 = .ok (.bipush (-3), 2) := by decide +kernel
theorem dX9_write_45 : decode cX9_write 45 = .ok (.ireturn, 1) := by decide +kernel
theorem dX9_write_46 : decode cX9_write 46 = .ok (.aload 4, 2) := by decide +kernel
theorem dX9_write_48 : decode cX9_write 48 = .ok (.getfield 117, 3) := by decide +kernel
theorem dX9_write_51 : decode cX9_write 51 = .ok (.iload_n 2, 1) := by decide +kernel
theorem dX9_write_52 : decode cX9_write 52 = .ok (.iaload, 1) := by decide +kernel
theorem dX9_write_53 : decode cX9_write 53 = .ok (.istore 5, 2) := by decide +kernel
theorem dX9_write_55 : decode cX9_write 55 = .ok (.aload 4, 2) := by decide +kernel
theorem dX9_write_57 : decode cX9_write 57 = .ok (.getfield 117, 3) := by decide +kernel
theorem dX9_write_60 : decode cX9_write 60 = .ok (.iload_n 2, 1) := by decide +kernel
theorem dX9_write_61 : decode cX9_write 61 = .ok (.iload_n 3, 1) := by decide +kernel
theorem dX9_write_62 : decode cX9_write 62 = .ok (.ifCond .ge 8, 3) := by decide +kernel
theorem dX9_write_65 : decode cX9_write 65 = .ok (.bipush (-6), 2) := by decide +kernel
theorem dX9_write_67 : decode cX9_write 67 = .ok (.goto 4, 3) := by decide +kernel
theorem dX9_write_70 : decode cX9_write 70 = .ok (.iload_n 3, 1) := by decide +kernel
theorem dX9_write_71 : decode cX9_write 71 = .ok (.iastore, 1) := by decide +kernel
theorem dX9_write_72 : decode cX9_write 72 = .ok (.aload_n 0, 1) := by decide +kernel
theorem dX9_write_73 : decode cX9_write 73 = .ok (.aload 4, 2) := by decide +kernel
theorem dX9_write_75 : decode cX9_write 75 = .ok (.invokevirtual 120, 3) := by decide +kernel
theorem dX9_write_78 : decode cX9_write 78 = .ok (.aload_n 0, 1) := by decide +kernel
theorem dX9_write_79 : decode cX9_write 79 = .ok (.getfield 54, 3) := by decide +kernel
theorem dX9_write_82 : decode cX9_write 82 = .ok (.iconst 0, 1) := by decide +kernel
theorem dX9_write_83 : decode cX9_write 83 = .ok (.putfield 124, 3) := by decide +kernel
theorem dX9_write_86 : decode cX9_write 86 = .ok (.iload 5, 2) := by decide +kernel
theorem dX9_write_88 : decode cX9_write 88 = .ok (.ireturn, 1) := by decide +kernel
theorem dX9_sides_0 : decode cX9_sides 0 = .ok (.aload_n 0, 1) := by decide +kernel
theorem dX9_sides_1 : decode cX9_sides 1 = .ok (.iload_n 1, 1) := by decide +kernel
theorem dX9_sides_2 : decode cX9_sides 2 = .ok (.invokevirtual 106, 3) := by decide +kernel
theorem dX9_sides_5 : decode cX9_sides 5 = .ok (.astore_n 3, 1) := by decide +kernel
theorem dX9_sides_6 : decode cX9_sides 6 = .ok (.aload_n 0, 1) := by decide +kernel
theorem dX9_sides_7 : decode cX9_sides 7 = .ok (.iload_n 2, 1) := by decide +kernel
theorem dX9_sides_8 : decode cX9_sides 8 = .ok (.invokevirtual 106, 3) := by decide +kernel
theorem dX9_sides_11 : decode cX9_sides 11 = .ok (.astore 4, 2) := by decide +kernel
theorem dX9_sides_13 : decode cX9_sides 13 = .ok (.aload_n 3, 1) := by decide +kernel
theorem dX9_sides_14 : decode cX9_sides 14 = .ok (.ifnull 14, 3) := by decide +kernel
theorem dX9_sides_17 : decode cX9_sides 17 = .ok (.aload 4, 2) := by decide +kernel
theorem dX9_sides_19 : decode cX9_sides 19 = .ok (.ifnull 9, 3) := by decide +kernel
theorem dX9_sides_22 : decode cX9_sides 22 = .ok (.aload_n 3, 1) := by decide +kernel
theorem dX9_sides_23 : decode cX9_sides 23 = .ok (.aload 4, 2) := by decide +kernel
theorem dX9_sides_25 : decode cX9_sides 25 = .ok (.if_acmp .ne 5, 3) := by decide +kernel
theorem dX9_sides_28 : decode cX9_sides 28 = .ok (.iconst (-1), 1) := by decide +kernel
theorem dX9_sides_29 : decode cX9_sides 29 = .ok (.ireturn, 1) := by decide +kernel
theorem dX9_sides_30 : decode cX9_sides 30 = .ok (.aload_n 3, 1) := by decide +kernel
theorem dX9_sides_31 : decode cX9_sides 31 = .ok (.getfield 128, 3) := by decide +kernel
theorem dX9_sides_34 : decode cX9_sides 34 = .ok (.aload 4, 2) := by decide +kernel
theorem dX9_sides_36 : decode cX9_sides 36 = .ok (.getfield 128, 3) := by decide +kernel
theorem dX9_sides_39 : decode cX9_sides 39 = .ok (.if_icmp .ne 15, 3) := by decide +kernel
theorem dX9_sides_42 : decode cX9_sides 42 = .ok (.aload_n 3, 1) := by decide +kernel
theorem dX9_sides_43 : decode cX9_sides 43 = .ok (.getfield 131, 3) := by decide +kernel
theorem dX9_sides_46 : decode cX9_sides 46 = .ok (.aload 4, 2) := by decide +kernel
theorem dX9_sides_48 : decode cX9_sides 48 = .ok (.getfield 131, 3) := by decide +kernel
theorem dX9_sides_51 : decode cX9_sides 51 = .ok (.if_icmp .eq 6, 3) := by decide +kernel
theorem dX9_sides_54 : decode cX9_sides 54 = .ok (.bipush (-3), 2) := by decide +kernel
theorem dX9_sides_56 : decode cX9_sides 56 = .ok (.ireturn, 1) := by decide +kernel
theorem dX9_sides_57 : decode cX9_sides 57 = .ok (.aload_n 3, 1) := by decide +kernel
theorem dX9_sides_58 : decode cX9_sides 58 = .ok (.getfield 134, 3) := by decide +kernel
theorem dX9_sides_61 : decode cX9_sides 61 = .ok (.ifnonnull 11, 3) := by decide +kernel
theorem dX9_sides_64 : decode cX9_sides 64 = .ok (.aload 4, 2) := by decide +kernel
theorem dX9_sides_66 : decode cX9_sides 66 = .ok (.getfield 134, 3) := by decide +kernel
theorem dX9_sides_69 : decode cX9_sides 69 = .ok (.ifnull 6, 3) := by decide +kernel
theorem dX9_sides_72 : decode cX9_sides 72 = .ok (.bipush (-5), 2) := by decide +kernel
theorem dX9_sides_74 : decode cX9_sides 74 = .ok (.ireturn, 1) := by decide +kernel
theorem dX9_sides_75 : decode cX9_sides 75 = .ok (.aload_n 3, 1) := by decide +kernel
theorem dX9_sides_76 : decode cX9_sides 76 = .ok (.aload 4, 2) := by decide +kernel
theorem dX9_sides_78 : decode cX9_sides 78 = .ok (.putfield 134, 3) := by decide +kernel
theorem dX9_sides_81 : decode cX9_sides 81 = .ok (.aload 4, 2) := by decide +kernel
theorem dX9_sides_83 : decode cX9_sides 83 = .ok (.aload_n 3, 1) := by decide +kernel
theorem dX9_sides_84 : decode cX9_sides 84 = .ok (.putfield 134, 3) := by decide +kernel
theorem dX9_sides_87 : decode cX9_sides 87 = .ok (.iconst 1, 1) := by decide +kernel
theorem dX9_sides_88 : decode cX9_sides 88 = .ok (.ireturn, 1) := by decide +kernel
theorem dX9_countPieces_0 : decode cX9_countPieces 0 = .ok (.iconst 0, 1) := by decide +kernel
theorem dX9_countPieces_1 : decode cX9_countPieces 1 = .ok (.istore_n 2, 1) := by decide +kernel
theorem dX9_countPieces_2 : decode cX9_countPieces 2 = .ok (.iconst 0, 1) := by decide +kernel
theorem dX9_countPieces_3 : decode cX9_countPieces 3 = .ok (.istore_n 3, 1) := by decide +kernel
theorem dX9_countPieces_4 : decode cX9_countPieces 4 = .ok (.iload_n 3, 1) := by decide +kernel
theorem dX9_countPieces_5 : decode cX9_countPieces 5 = .ok (.aload_n 0, 1) := by decide +kernel
theorem dX9_countPieces_6 : decode cX9_countPieces 6 = .ok (.getfield 29, 3) := by decide +kernel
theorem dX9_countPieces_9 : decode cX9_countPieces 9 = .ok (.if_icmp .ge 25, 3) := by decide +kernel
theorem dX9_countPieces_12 : decode cX9_countPieces 12 = .ok (.aload_n 0, 1) := by decide +kernel
theorem dX9_countPieces_13 : decode cX9_countPieces 13 = .ok (.getfield 25, 3) := by decide +kernel
theorem dX9_countPieces_16 : decode cX9_countPieces 16 = .ok (.iload_n 3, 1) := by decide +kernel
theorem dX9_countPieces_17 : decode cX9_countPieces 17 = .ok (.aaload, 1) := by decide +kernel
theorem dX9_countPieces_18 : decode cX9_countPieces 18 = .ok (.getfield 166, 3) := by decide +kernel
theorem dX9_countPieces_21 : decode cX9_countPieces 21 = .ok (.aload_n 1, 1) := by decide +kernel
theorem dX9_countPieces_22 : decode cX9_countPieces 22 = .ok (.if_acmp .ne 6, 3) := by decide +kernel
theorem dX9_countPieces_25 : decode cX9_countPieces 25 = .ok (.iinc 2 1, 3) := by decide +kernel
theorem dX9_countPieces_28 : decode cX9_countPieces 28 = .ok (.iinc 3 1, 3) := by decide +kernel
theorem dX9_countPieces_31 : decode cX9_countPieces 31 = .ok (.goto (-27), 3) := by decide +kernel
theorem dX9_countPieces_34 : decode cX9_countPieces 34 = .ok (.iload_n 2, 1) := by decide +kernel
theorem dX9_countPieces_35 : decode cX9_countPieces 35 = .ok (.ireturn, 1) := by decide +kernel
theorem dX9_ofPage_0 : decode cX9_ofPage 0 = .ok (.aload_n 0, 1) := by decide +kernel
theorem dX9_ofPage_1 : decode cX9_ofPage 1 = .ok (.iload_n 1, 1) := by decide +kernel
theorem dX9_ofPage_2 : decode cX9_ofPage 2 = .ok (.invokevirtual 106, 3) := by decide +kernel
theorem dX9_ofPage_5 : decode cX9_ofPage 5 = .ok (.astore_n 3, 1) := by decide +kernel
theorem dX9_ofPage_6 : decode cX9_ofPage 6 = .ok (.aload_n 3, 1) := by decide +kernel
theorem dX9_ofPage_7 : decode cX9_ofPage 7 = .ok (.ifnonnull 5, 3) := by decide +kernel
theorem dX9_ofPage_10 : decode cX9_ofPage 10 = .ok (.iconst (-1), 1) := by decide +kernel
theorem dX9_ofPage_11 : decode cX9_ofPage 11 = .ok (.ireturn, 1) := by decide +kernel
theorem dX9_ofPage_12 : decode cX9_ofPage 12 = .ok (.iload_n 2, 1) := by decide +kernel
theorem dX9_ofPage_13 : decode cX9_ofPage 13 = .ok (.bipush 100, 2) := by decide +kernel
theorem dX9_ofPage_15 : decode cX9_ofPage 15 = .ok (.sipush 159, 3) := by decide +kernel
theorem dX9_ofPage_18 : decode cX9_ofPage 18 = .ok (.invokestatic 95, 3) := by decide +kernel
theorem dX9_ofPage_21 : decode cX9_ofPage 21 = .ok (.ifCond .eq 13, 3) := by decide +kernel
theorem dX9_ofPage_24 : decode cX9_ofPage 24 = .ok (.aload_n 3, 1) := by decide +kernel
theorem dX9_ofPage_25 : decode cX9_ofPage 25 = .ok (.getfield 117, 3) := by decide +kernel
theorem dX9_ofPage_28 : decode cX9_ofPage 28 = .ok (.iload_n 2, 1) := by decide +kernel
theorem dX9_ofPage_29 : decode cX9_ofPage 29 = .ok (.bipush 100, 2) := by decide +kernel
theorem dX9_ofPage_31 : decode cX9_ofPage 31 = .ok (.isub, 1) := by decide +kernel
theorem dX9_ofPage_32 : decode cX9_ofPage 32 = .ok (.iaload, 1) := by decide +kernel
theorem dX9_ofPage_33 : decode cX9_ofPage 33 = .ok (.ireturn, 1) := by decide +kernel
theorem dX9_ofPage_34 : decode cX9_ofPage 34 = .ok (.iload_n 2, 1) := by decide +kernel
theorem dX9_ofPage_35 : decode cX9_ofPage 35 = .ok (.tableswitch 65 0 3 #[29, 34, 39, 59], 29) := by decide +kernel
theorem dX9_ofPage_64 : decode cX9_ofPage 64 = .ok (.aload_n 3, 1) := by decide +kernel
theorem dX9_ofPage_65 : decode cX9_ofPage 65 = .ok (.getfield 128, 3) := by decide +kernel
theorem dX9_ofPage_68 : decode cX9_ofPage 68 = .ok (.ireturn, 1) := by decide +kernel
theorem dX9_ofPage_69 : decode cX9_ofPage 69 = .ok (.aload_n 3, 1) := by decide +kernel
theorem dX9_ofPage_70 : decode cX9_ofPage 70 = .ok (.getfield 131, 3) := by decide +kernel
theorem dX9_ofPage_73 : decode cX9_ofPage 73 = .ok (.ireturn, 1) := by decide +kernel
theorem dX9_ofPage_74 : decode cX9_ofPage 74 = .ok (.aload_n 3, 1) := by decide +kernel
theorem dX9_ofPage_75 : decode cX9_ofPage 75 = .ok (.getfield 134, 3) := by decide +kernel
theorem dX9_ofPage_78 : decode cX9_ofPage 78 = .ok (.ifnonnull 8, 3) := by decide +kernel
theorem dX9_ofPage_81 : decode cX9_ofPage 81 = .ok (.bipush (-6), 2) := by decide +kernel
theorem dX9_ofPage_83 : decode cX9_ofPage 83 = .ok (.goto 10, 3) := by decide +kernel
theorem dX9_ofPage_86 : decode cX9_ofPage 86 = .ok (.aload_n 3, 1) := by decide +kernel
theorem dX9_ofPage_87 : decode cX9_ofPage 87 = .ok (.getfield 134, 3) := by decide +kernel
theorem dX9_ofPage_90 : decode cX9_ofPage 90 = .ok (.getfield 138, 3) := by decide +kernel
theorem dX9_ofPage_93 : decode cX9_ofPage 93 = .ok (.ireturn, 1) := by decide +kernel
theorem dX9_ofPage_94 : decode cX9_ofPage 94 = .ok (.aload_n 0, 1) := by decide +kernel
theorem dX9_ofPage_95 : decode cX9_ofPage 95 = .ok (.aload_n 3, 1) := by decide +kernel
theorem dX9_ofPage_96 : decode cX9_ofPage 96 = .ok (.invokevirtual 141, 3) := by decide +kernel
theorem dX9_ofPage_99 : decode cX9_ofPage 99 = .ok (.ireturn, 1) := by decide +kernel
theorem dX9_ofPage_100 : decode cX9_ofPage 100 = .ok (.bipush (-2), 2) := by decide +kernel
theorem dX9_ofPage_102 : decode cX9_ofPage 102 = .ok (.ireturn, 1) := by decide +kernel
theorem dX9_isRange_0 : decode cX9_isRange 0 = .ok (.iload_n 0, 1) := by decide +kernel
theorem dX9_isRange_1 : decode cX9_isRange 1 = .ok (.ifCond .lt 17, 3) := by decide +kernel
theorem dX9_isRange_4 : decode cX9_isRange 4 = .ok (.iload_n 0, 1) := by decide +kernel
theorem dX9_isRange_5 : decode cX9_isRange 5 = .ok (.iload_n 1, 1) := by decide +kernel
theorem dX9_isRange_6 : decode cX9_isRange 6 = .ok (.if_icmp .gt 12, 3) := by decide +kernel
theorem dX9_isRange_9 : decode cX9_isRange 9 = .ok (.iload_n 1, 1) := by decide +kernel
theorem dX9_isRange_10 : decode cX9_isRange 10 = .ok (.iload_n 2, 1) := by decide +kernel
theorem dX9_isRange_11 : decode cX9_isRange 11 = .ok (.if_icmp .ge 7, 3) := by decide +kernel
theorem dX9_isRange_14 : decode cX9_isRange 14 = .ok (.iconst 1, 1) := by decide +kernel
theorem dX9_isRange_15 : decode cX9_isRange 15 = .ok (.goto 4, 3) := by decide +kernel
theorem dX9_isRange_18 : decode cX9_isRange 18 = .ok (.iconst 0, 1) := by decide +kernel
theorem dX9_isRange_19 : decode cX9_isRange 19 = .ok (.ireturn, 1) := by decide +kernel
theorem dX6_init_0 : decode cX6_init 0 = .ok (.aload_n 0, 1) := by decide +kernel
theorem dX6_init_1 : decode cX6_init 1 = .ok (.invokespecial 3, 3) := by decide +kernel
theorem dX6_init_4 : decode cX6_init 4 = .ok (.aload_n 0, 1) := by decide +kernel
theorem dX6_init_5 : decode cX6_init 5 = .ok (.bipush 60, 2) := by decide +kernel
theorem dX6_init_7 : decode cX6_init 7 = .ok (.newarray .int, 2) := by decide +kernel
theorem dX6_init_9 : decode cX6_init 9 = .ok (.putfield 9, 3) := by decide +kernel
theorem dX6_init_12 : decode cX6_init 12 = .ok (.aload_n 0, 1) := by decide +kernel
theorem dX6_init_13 : decode cX6_init 13 = .ok (.iconst 0, 1) := by decide +kernel
theorem dX6_init_14 : decode cX6_init 14 = .ok (.putfield 15, 3) := by decide +kernel
theorem dX6_init_17 : decode cX6_init 17 = .ok (.aload_n 0, 1) := by decide +kernel
theorem dX6_init_18 : decode cX6_init 18 = .ok (.iconst 0, 1) := by decide +kernel
theorem dX6_init_19 : decode cX6_init 19 = .ok (.putfield 19, 3) := by decide +kernel
theorem dX6_init_22 : decode cX6_init 22 = .ok (.aload_n 0, 1) := by decide +kernel
theorem dX6_init_23 : decode cX6_init 23 = .ok (.iconst 0, 1) := by decide +kernel
theorem dX6_init_24 : decode cX6_init 24 = .ok (.putfield 22, 3) := by decide +kernel
theorem dX6_init_27 : decode cX6_init 27 = .ok (.aload_n 0, 1) := by decide +kernel
theorem dX6_init_28 : decode cX6_init 28 = .ok (.iconst 0, 1) := by decide +kernel
theorem dX6_init_29 : decode cX6_init 29 = .ok (.putfield 25, 3) := by decide +kernel
theorem dX6_init_32 : decode cX6_init 32 = .ok (.aload_n 0, 1) := by decide +kernel
theorem dX6_init_33 : decode cX6_init 33 = .ok (.iconst 0, 1) := by decide +kernel
theorem dX6_init_34 : decode cX6_init 34 = .ok (.putfield 28, 3) := by decide +kernel
theorem dX6_init_37 : decode cX6_init 37 = .ok (.aload_n 0, 1) := by decide +kernel
theorem dX6_init_38 : decode cX6_init 38 = .ok (.iload_n 1, 1) := by decide +kernel
theorem dX6_init_39 : decode cX6_init 39 = .ok (.putfield 31, 3) := by decide +kernel
theorem dX6_init_42 : decode cX6_init 42 = .ok (.aload_n 0, 1) := by decide +kernel
theorem dX6_init_43 : decode cX6_init 43 = .ok (.aload_n 2, 1) := by decide +kernel
theorem dX6_init_44 : decode cX6_init 44 = .ok (.putfield 34, 3) := by decide +kernel
theorem dX6_init_47 : decode cX6_init 47 = .ok (.aload_n 0, 1) := by decide +kernel
theorem dX6_init_48 : decode cX6_init 48 = .ok (.iload_n 3, 1) := by decide +kernel
theorem dX6_init_49 : decode cX6_init 49 = .ok (.putfield 38, 3) := by decide +kernel
theorem dX6_init_52 : decode cX6_init 52 = .ok (.aload_n 0, 1) := by decide +kernel
theorem dX6_init_53 : decode cX6_init 53 = .ok (.iload 4, 2) := by decide +kernel
theorem dX6_init_55 : decode cX6_init 55 = .ok (.putfield 41, 3) := by decide +kernel
theorem dX6_init_58 : decode cX6_init 58 = .ok (.aload_n 0, 1) := by decide +kernel
theorem dX6_init_59 : decode cX6_init 59 = .ok (.iload 5, 2) := by decide +kernel
theorem dX6_init_61 : decode cX6_init 61 = .ok (.putfield 44, 3) := by decide +kernel
theorem dX6_init_64 : decode cX6_init 64 = .ok (.aload_n 0, 1) := by decide +kernel
theorem dX6_init_65 : decode cX6_init 65 = .ok (.iload 6, 2) := by decide +kernel
theorem dX6_init_67 : decode cX6_init 67 = .ok (.putfield 47, 3) := by decide +kernel
theorem dX6_init_70 : decode cX6_init 70 = .ok (.return_, 1) := by decide +kernel
theorem dX4_isLaterThan_0 : decode cX4_isLaterThan 0 = .ok (.aload_n 0, 1) := by decide +kernel
theorem dX4_isLaterThan_1 : decode cX4_isLaterThan 1 = .ok (.getfield 26, 3) := by decide +kernel
theorem dX4_isLaterThan_4 : decode cX4_isLaterThan 4 = .ok (.aload_n 1, 1) := by decide +kernel
theorem dX4_isLaterThan_5 : decode cX4_isLaterThan 5 = .ok (.getfield 26, 3) := by decide +kernel
theorem dX4_isLaterThan_8 : decode cX4_isLaterThan 8 = .ok (.if_icmp .eq 22, 3) := by decide +kernel
theorem dX4_isLaterThan_11 : decode cX4_isLaterThan 11 = .ok (.aload_n 0, 1) := by decide +kernel
theorem dX4_isLaterThan_12 : decode cX4_isLaterThan 12 = .ok (.getfield 26, 3) := by decide +kernel
theorem dX4_isLaterThan_15 : decode cX4_isLaterThan 15 = .ok (.aload_n 1, 1) := by decide +kernel
theorem dX4_isLaterThan_16 : decode cX4_isLaterThan 16 = .ok (.getfield 26, 3) := by decide +kernel
theorem dX4_isLaterThan_19 : decode cX4_isLaterThan 19 = .ok (.if_icmp .le 7, 3) := by decide +kernel
theorem dX4_isLaterThan_22 : decode cX4_isLaterThan 22 = .ok (.iconst 1, 1) := by decide +kernel
theorem dX4_isLaterThan_23 : decode cX4_isLaterThan 23 = .ok (.goto 23, 3) := by decide +kernel
theorem dX4_isLaterThan_26 : decode cX4_isLaterThan 26 = .ok (.iconst 0, 1) := by decide +kernel
theorem dX4_isLaterThan_27 : decode cX4_isLaterThan 27 = .ok (.goto 19, 3) := by decide +kernel
theorem dX4_isLaterThan_30 : decode cX4_isLaterThan 30 = .ok (.aload_n 0, 1) := by decide +kernel
theorem dX4_isLaterThan_31 : decode cX4_isLaterThan 31 = .ok (.getfield 23, 3) := by decide +kernel
theorem dX4_isLaterThan_34 : decode cX4_isLaterThan 34 = .ok (.aload_n 1, 1) := by decide +kernel
theorem dX4_isLaterThan_35 : decode cX4_isLaterThan 35 = .ok (.getfield 23, 3) := by decide +kernel
theorem dX4_isLaterThan_38 : decode cX4_isLaterThan 38 = .ok (.if_icmp .le 7, 3) := by decide +kernel
theorem dX4_isLaterThan_41 : decode cX4_isLaterThan 41 = .ok (.iconst 1, 1) := by decide +kernel
theorem dX4_isLaterThan_42 : decode cX4_isLaterThan 42 = .ok (.goto 4, 3) := by decide +kernel
theorem dX4_isLaterThan_45 : decode cX4_isLaterThan 45 = .ok (.iconst 0, 1) := by decide +kernel
theorem dX4_isLaterThan_46 : decode cX4_isLaterThan 46 = .ok (.ireturn, 1) := by decide +kernel
theorem dX9_putInOrder_0 : decode cX9_putInOrder 0 = .ok (.aload_n 0, 1) := by decide +kernel
theorem dX9_putInOrder_1 : decode cX9_putInOrder 1 = .ok (.getfield 29, 3) := by decide +kernel
theorem dX9_putInOrder_4 : decode cX9_putInOrder 4 = .ok (.istore_n 2, 1) := by decide +kernel
theorem dX9_putInOrder_5 : decode cX9_putInOrder 5 = .ok (.iload_n 2, 1) := by decide +kernel
theorem dX9_putInOrder_6 : decode cX9_putInOrder 6 = .ok (.ifCond .le 44, 3) := by decide +kernel
theorem dX9_putInOrder_9 : decode cX9_putInOrder 9 = .ok (.aload_n 0, 1) := by decide +kernel
theorem dX9_putInOrder_10 : decode cX9_putInOrder 10 = .ok (.getfield 32, 3) := by decide +kernel
theorem dX9_putInOrder_13 : decode cX9_putInOrder 13 = .ok (.iload_n 2, 1) := by decide +kernel
theorem dX9_putInOrder_14 : decode cX9_putInOrder 14 = .ok (.iconst 1, 1) := by decide +kernel
theorem dX9_putInOrder_15 : decode cX9_putInOrder 15 = .ok (.isub, 1) := by decide +kernel
theorem dX9_putInOrder_16 : decode cX9_putInOrder 16 = .ok (.aaload, 1) := by decide +kernel
theorem dX9_putInOrder_17 : decode cX9_putInOrder 17 = .ok (.getfield 166, 3) := by decide +kernel
theorem dX9_putInOrder_20 : decode cX9_putInOrder 20 = .ok (.aload_n 1, 1) := by decide +kernel
theorem dX9_putInOrder_21 : decode cX9_putInOrder 21 = .ok (.getfield 166, 3) := by decide +kernel
theorem dX9_putInOrder_24 : decode cX9_putInOrder 24 = .ok (.invokevirtual 331, 3) := by decide +kernel
theorem dX9_putInOrder_27 : decode cX9_putInOrder 27 = .ok (.ifCond .eq 23, 3) := by decide +kernel
theorem dX9_putInOrder_30 : decode cX9_putInOrder 30 = .ok (.aload_n 0, 1) := by decide +kernel
theorem dX9_putInOrder_31 : decode cX9_putInOrder 31 = .ok (.getfield 32, 3) := by decide +kernel
theorem dX9_putInOrder_34 : decode cX9_putInOrder 34 = .ok (.iload_n 2, 1) := by decide +kernel
theorem dX9_putInOrder_35 : decode cX9_putInOrder 35 = .ok (.aload_n 0, 1) := by decide +kernel
theorem dX9_putInOrder_36 : decode cX9_putInOrder 36 = .ok (.getfield 32, 3) := by decide +kernel
theorem dX9_putInOrder_39 : decode cX9_putInOrder 39 = .ok (.iload_n 2, 1) := by decide +kernel
theorem dX9_putInOrder_40 : decode cX9_putInOrder 40 = .ok (.iconst 1, 1) := by decide +kernel
theorem dX9_putInOrder_41 : decode cX9_putInOrder 41 = .ok (.isub, 1) := by decide +kernel
theorem dX9_putInOrder_42 : decode cX9_putInOrder 42 = .ok (.aaload, 1) := by decide +kernel
theorem dX9_putInOrder_43 : decode cX9_putInOrder 43 = .ok (.aastore, 1) := by decide +kernel
theorem dX9_putInOrder_44 : decode cX9_putInOrder 44 = .ok (.iinc 2 (-1), 3) := by decide +kernel
theorem dX9_putInOrder_47 : decode cX9_putInOrder 47 = .ok (.goto (-42), 3) := by decide +kernel
theorem dX9_putInOrder_50 : decode cX9_putInOrder 50 = .ok (.aload_n 0, 1) := by decide +kernel
theorem dX9_putInOrder_51 : decode cX9_putInOrder 51 = .ok (.getfield 32, 3) := by decide +kernel
theorem dX9_putInOrder_54 : decode cX9_putInOrder 54 = .ok (.iload_n 2, 1) := by decide +kernel
theorem dX9_putInOrder_55 : decode cX9_putInOrder 55 = .ok (.aload_n 1, 1) := by decide +kernel
theorem dX9_putInOrder_56 : decode cX9_putInOrder 56 = .ok (.aastore, 1) := by decide +kernel
theorem dX9_putInOrder_57 : decode cX9_putInOrder 57 = .ok (.return_, 1) := by decide +kernel
theorem dX9_piece_0 : decode cX9_piece 0 = .ok (.aload_n 0, 1) := by decide +kernel
theorem dX9_piece_1 : decode cX9_piece 1 = .ok (.iload_n 1, 1) := by decide +kernel
theorem dX9_piece_2 : decode cX9_piece 2 = .ok (.invokevirtual 106, 3) := by decide +kernel
theorem dX9_piece_5 : decode cX9_piece 5 = .ok (.astore 6, 2) := by decide +kernel
theorem dX9_piece_7 : decode cX9_piece 7 = .ok (.aload 6, 2) := by decide +kernel
theorem dX9_piece_9 : decode cX9_piece 9 = .ok (.ifnonnull 5, 3) := by decide +kernel
theorem dX9_piece_12 : decode cX9_piece 12 = .ok (.iconst (-1), 1) := by decide +kernel
theorem dX9_piece_13 : decode cX9_piece 13 = .ok (.ireturn, 1) := by decide +kernel
theorem dX9_piece_14 : decode cX9_piece 14 = .ok (.iload_n 2, 1) := by decide +kernel
theorem dX9_piece_15 : decode cX9_piece 15 = .ok (.iload_n 3, 1) := by decide +kernel
theorem dX9_piece_16 : decode cX9_piece 16 = .ok (.bipush 6, 2) := by decide +kernel
theorem dX9_piece_18 : decode cX9_piece 18 = .ok (.invokestatic 145, 3) := by decide +kernel
theorem dX9_piece_21 : decode cX9_piece 21 = .ok (.ifCond .eq 15, 3) := by decide +kernel
theorem dX9_piece_24 : decode cX9_piece 24 = .ok (.iload 4, 2) := by decide +kernel
theorem dX9_piece_26 : decode cX9_piece 26 = .ok (.iload 5, 2) := by decide +kernel
theorem dX9_piece_28 : decode cX9_piece 28 = .ok (.bipush 10, 2) := by decide +kernel
theorem dX9_piece_30 : decode cX9_piece 30 = .ok (.invokestatic 145, 3) := by decide +kernel
theorem dX9_piece_33 : decode cX9_piece 33 = .ok (.ifCond .ne 6, 3) := by decide +kernel
theorem dX9_piece_36 : decode cX9_piece 36 = .ok (.bipush (-2), 2) := by decide +kernel
theorem dX9_piece_38 : decode cX9_piece 38 = .ok (.ireturn, 1) := by decide +kernel
theorem dX9_piece_39 : decode cX9_piece 39 = .ok (.aload_n 0, 1) := by decide +kernel
theorem dX9_piece_40 : decode cX9_piece 40 = .ok (.getfield 29, 3) := by decide +kernel
theorem dX9_piece_43 : decode cX9_piece 43 = .ok (.bipush 24, 2) := by decide +kernel
theorem dX9_piece_45 : decode cX9_piece 45 = .ok (.if_icmp .lt 6, 3) := by decide +kernel
theorem dX9_piece_48 : decode cX9_piece 48 = .ok (.bipush (-4), 2) := by decide +kernel
theorem dX9_piece_50 : decode cX9_piece 50 = .ok (.ireturn, 1) := by decide +kernel
theorem dX9_piece_51 : decode cX9_piece 51 = .ok (.new 23, 3) := by decide +kernel
theorem dX9_piece_54 : decode cX9_piece 54 = .ok (.dup, 1) := by decide +kernel
theorem dX9_piece_55 : decode cX9_piece 55 = .ok (.aload_n 0, 1) := by decide +kernel
theorem dX9_piece_56 : decode cX9_piece 56 = .ok (.getfield 29, 3) := by decide +kernel
theorem dX9_piece_59 : decode cX9_piece 59 = .ok (.aload 6, 2) := by decide +kernel
theorem dX9_piece_61 : decode cX9_piece 61 = .ok (.iload_n 2, 1) := by decide +kernel
theorem dX9_piece_62 : decode cX9_piece 62 = .ok (.iload_n 3, 1) := by decide +kernel
theorem dX9_piece_63 : decode cX9_piece 63 = .ok (.iload 4, 2) := by decide +kernel
theorem dX9_piece_65 : decode cX9_piece 65 = .ok (.iload 5, 2) := by decide +kernel
theorem dX9_piece_67 : decode cX9_piece 67 = .ok (.invokespecial 148, 3) := by decide +kernel
theorem dX9_piece_70 : decode cX9_piece 70 = .ok (.astore 7, 2) := by decide +kernel
theorem dX9_piece_72 : decode cX9_piece 72 = .ok (.aload 7, 2) := by decide +kernel
theorem dX9_piece_74 : decode cX9_piece 74 = .ok (.invokevirtual 151, 3) := by decide +kernel
theorem dX9_piece_77 : decode cX9_piece 77 = .ok (.aload_n 0, 1) := by decide +kernel
theorem dX9_piece_78 : decode cX9_piece 78 = .ok (.getfield 25, 3) := by decide +kernel
theorem dX9_piece_81 : decode cX9_piece 81 = .ok (.aload_n 0, 1) := by decide +kernel
theorem dX9_piece_82 : decode cX9_piece 82 = .ok (.getfield 29, 3) := by decide +kernel
theorem dX9_piece_85 : decode cX9_piece 85 = .ok (.aload 7, 2) := by decide +kernel
theorem dX9_piece_87 : decode cX9_piece 87 = .ok (.aastore, 1) := by decide +kernel
theorem dX9_piece_88 : decode cX9_piece 88 = .ok (.aload_n 0, 1) := by decide +kernel
theorem dX9_piece_89 : decode cX9_piece 89 = .ok (.aload 7, 2) := by decide +kernel
theorem dX9_piece_91 : decode cX9_piece 91 = .ok (.invokevirtual 154, 3) := by decide +kernel
theorem dX9_piece_94 : decode cX9_piece 94 = .ok (.aload_n 0, 1) := by decide +kernel
theorem dX9_piece_95 : decode cX9_piece 95 = .ok (.getfield 54, 3) := by decide +kernel
theorem dX9_piece_98 : decode cX9_piece 98 = .ok (.iconst 0, 1) := by decide +kernel
theorem dX9_piece_99 : decode cX9_piece 99 = .ok (.putfield 124, 3) := by decide +kernel
theorem dX9_piece_102 : decode cX9_piece 102 = .ok (.aload_n 0, 1) := by decide +kernel
theorem dX9_piece_103 : decode cX9_piece 103 = .ok (.dup, 1) := by decide +kernel
theorem dX9_piece_104 : decode cX9_piece 104 = .ok (.getfield 29, 3) := by decide +kernel
theorem dX9_piece_107 : decode cX9_piece 107 = .ok (.dup_x1, 1) := by decide +kernel
theorem dX9_piece_108 : decode cX9_piece 108 = .ok (.iconst 1, 1) := by decide +kernel
theorem dX9_piece_109 : decode cX9_piece 109 = .ok (.iadd, 1) := by decide +kernel
theorem dX9_piece_110 : decode cX9_piece 110 = .ok (.putfield 29, 3) := by decide +kernel
theorem dX9_piece_113 : decode cX9_piece 113 = .ok (.ireturn, 1) := by decide +kernel
theorem dX9_pieceOf_0 : decode cX9_pieceOf 0 = .ok (.iload_n 1, 1) := by decide +kernel
theorem dX9_pieceOf_1 : decode cX9_pieceOf 1 = .ok (.iconst 0, 1) := by decide +kernel
theorem dX9_pieceOf_2 : decode cX9_pieceOf 2 = .ok (.aload_n 0, 1) := by decide +kernel
theorem dX9_pieceOf_3 : decode cX9_pieceOf 3 = .ok (.getfield 29, 3) := by decide +kernel
theorem dX9_pieceOf_6 : decode cX9_pieceOf 6 = .ok (.iconst 1, 1) := by decide +kernel
theorem dX9_pieceOf_7 : decode cX9_pieceOf 7 = .ok (.isub, 1) := by decide +kernel
theorem dX9_pieceOf_8 : decode cX9_pieceOf 8 = .ok (.invokestatic 95, 3) := by decide +kernel
theorem dX9_pieceOf_11 : decode cX9_pieceOf 11 = .ok (.ifCond .eq 12, 3) := by decide +kernel
theorem dX9_pieceOf_14 : decode cX9_pieceOf 14 = .ok (.aload_n 0, 1) := by decide +kernel
theorem dX9_pieceOf_15 : decode cX9_pieceOf 15 = .ok (.getfield 25, 3) := by decide +kernel
theorem dX9_pieceOf_18 : decode cX9_pieceOf 18 = .ok (.iload_n 1, 1) := by decide +kernel
theorem dX9_pieceOf_19 : decode cX9_pieceOf 19 = .ok (.aaload, 1) := by decide +kernel
theorem dX9_pieceOf_20 : decode cX9_pieceOf 20 = .ok (.goto 4, 3) := by decide +kernel
theorem dX9_pieceOf_23 : decode cX9_pieceOf 23 = .ok (.aconst_null, 1) := by decide +kernel
theorem dX9_pieceOf_24 : decode cX9_pieceOf 24 = .ok (.areturn, 1) := by decide +kernel
theorem dX9_oneIf_0 : decode cX9_oneIf 0 = .ok (.iload_n 0, 1) := by decide +kernel
theorem dX9_oneIf_1 : decode cX9_oneIf 1 = .ok (.ifCond .eq 7, 3) := by decide +kernel
theorem dX9_oneIf_4 : decode cX9_oneIf 4 = .ok (.iconst 1, 1) := by decide +kernel
theorem dX9_oneIf_5 : decode cX9_oneIf 5 = .ok (.goto 4, 3) := by decide +kernel
theorem dX9_oneIf_8 : decode cX9_oneIf 8 = .ok (.iconst 0, 1) := by decide +kernel
theorem dX9_oneIf_9 : decode cX9_oneIf 9 = .ok (.ireturn, 1) := by decide +kernel
theorem dX1_leastChanges_0 : decode cX1_leastChanges 0 = .ok (.iconst 0, 1) := by decide +kernel
theorem dX1_leastChanges_1 : decode cX1_leastChanges 1 = .ok (.istore_n 3, 1) := by decide +kernel
theorem dX1_leastChanges_2 : decode cX1_leastChanges 2 = .ok (.iload_n 3, 1) := by decide +kernel
theorem dX1_leastChanges_3 : decode cX1_leastChanges 3 = .ok (.aload_n 2, 1) := by decide +kernel
theorem dX1_leastChanges_4 : decode cX1_leastChanges 4 = .ok (.getfield 43, 3) := by decide +kernel
theorem dX1_leastChanges_7 : decode cX1_leastChanges 7 = .ok (.if_icmp .gt 16, 3) := by decide +kernel
theorem dX1_leastChanges_10 : decode cX1_leastChanges 10 = .ok (.aload_n 0, 1) := by decide +kernel
theorem dX1_leastChanges_11 : decode cX1_leastChanges 11 = .ok (.getfield 21, 3) := by decide +kernel
theorem dX1_leastChanges_14 : decode cX1_leastChanges 14 = .ok (.iload_n 3, 1) := by decide +kernel
theorem dX1_leastChanges_15 : decode cX1_leastChanges 15 = .ok (.iload_n 3, 1) := by decide +kernel
theorem dX1_leastChanges_16 : decode cX1_leastChanges 16 = .ok (.iastore, 1) := by decide +kernel
theorem dX1_leastChanges_17 : decode cX1_leastChanges 17 = .ok (.iinc 3 1, 3) := by decide +kernel
theorem dX1_leastChanges_20 : decode cX1_leastChanges 20 = .ok (.goto (-18), 3) := by decide +kernel
theorem dX1_leastChanges_23 : decode cX1_leastChanges 23 = .ok (.iconst 1, 1) := by decide +kernel
theorem dX1_leastChanges_24 : decode cX1_leastChanges 24 = .ok (.istore_n 3, 1) := by decide +kernel
theorem dX1_leastChanges_25 : decode cX1_leastChanges 25 = .ok (.iload_n 3, 1) := by decide +kernel
theorem dX1_leastChanges_26 : decode cX1_leastChanges 26 = .ok (.aload_n 1, 1) := by decide +kernel
theorem dX1_leastChanges_27 : decode cX1_leastChanges 27 = .ok (.getfield 43, 3) := by decide +kernel
theorem dX1_leastChanges_30 : decode cX1_leastChanges 30 = .ok (.if_icmp .gt 117, 3) := by decide +kernel
theorem dX1_leastChanges_33 : decode cX1_leastChanges 33 = .ok (.aload_n 0, 1) := by decide +kernel
theorem dX1_leastChanges_34 : decode cX1_leastChanges 34 = .ok (.getfield 21, 3) := by decide +kernel
theorem dX1_leastChanges_37 : decode cX1_leastChanges 37 = .ok (.iconst 0, 1) := by decide +kernel
theorem dX1_leastChanges_38 : decode cX1_leastChanges 38 = .ok (.iaload, 1) := by decide +kernel
theorem dX1_leastChanges_39 : decode cX1_leastChanges 39 = .ok (.istore 4, 2) := by decide +kernel
theorem dX1_leastChanges_41 : decode cX1_leastChanges 41 = .ok (.aload_n 0, 1) := by decide +kernel
theorem dX1_leastChanges_42 : decode cX1_leastChanges 42 = .ok (.getfield 21, 3) := by decide +kernel
theorem dX1_leastChanges_45 : decode cX1_leastChanges 45 = .ok (.iconst 0, 1) := by decide +kernel
theorem dX1_leastChanges_46 : decode cX1_leastChanges 46 = .ok (.iload_n 3, 1) := by decide +kernel
theorem dX1_leastChanges_47 : decode cX1_leastChanges 47 = .ok (.iastore, 1) := by decide +kernel
theorem dX1_leastChanges_48 : decode cX1_leastChanges 48 = .ok (.iconst 1, 1) := by decide +kernel
theorem dX1_leastChanges_49 : decode cX1_leastChanges 49 = .ok (.istore 5, 2) := by decide +kernel
theorem dX1_leastChanges_51 : decode cX1_leastChanges 51 = .ok (.iload 5, 2) := by decide +kernel
theorem dX1_leastChanges_53 : decode cX1_leastChanges 53 = .ok (.aload_n 2, 1) := by decide +kernel
theorem dX1_leastChanges_54 : decode cX1_leastChanges 54 = .ok (.getfield 43, 3) := by decide +kernel
theorem dX1_leastChanges_57 : decode cX1_leastChanges 57 = .ok (.if_icmp .gt 84, 3) := by decide +kernel
theorem dX1_leastChanges_60 : decode cX1_leastChanges 60 = .ok (.iload 4, 2) := by decide +kernel
theorem dX1_leastChanges_62 : decode cX1_leastChanges 62 = .ok (.aload_n 1, 1) := by decide +kernel
theorem dX1_leastChanges_63 : decode cX1_leastChanges 63 = .ok (.getfield 50, 3) := by decide +kernel
theorem dX1_leastChanges_66 : decode cX1_leastChanges 66 = .ok (.iload_n 3, 1) := by decide +kernel
theorem dX1_leastChanges_67 : decode cX1_leastChanges 67 = .ok (.iconst 1, 1) := by decide +kernel
theorem dX1_leastChanges_68 : decode cX1_leastChanges 68 = .ok (.isub, 1) := by decide +kernel
theorem dX1_leastChanges_69 : decode cX1_leastChanges 69 = .ok (.iaload, 1) := by decide +kernel
theorem dX1_leastChanges_70 : decode cX1_leastChanges 70 = .ok (.aload_n 2, 1) := by decide +kernel
theorem dX1_leastChanges_71 : decode cX1_leastChanges 71 = .ok (.getfield 50, 3) := by decide +kernel
theorem dX1_leastChanges_74 : decode cX1_leastChanges 74 = .ok (.iload 5, 2) := by decide +kernel
theorem dX1_leastChanges_76 : decode cX1_leastChanges 76 = .ok (.iconst 1, 1) := by decide +kernel
theorem dX1_leastChanges_77 : decode cX1_leastChanges 77 = .ok (.isub, 1) := by decide +kernel
theorem dX1_leastChanges_78 : decode cX1_leastChanges 78 = .ok (.iaload, 1) := by decide +kernel
theorem dX1_leastChanges_79 : decode cX1_leastChanges 79 = .ok (.if_icmp .eq 7, 3) := by decide +kernel
theorem dX1_leastChanges_82 : decode cX1_leastChanges 82 = .ok (.iconst 1, 1) := by decide +kernel
theorem dX1_leastChanges_83 : decode cX1_leastChanges 83 = .ok (.goto 4, 3) := by decide +kernel
theorem dX1_leastChanges_86 : decode cX1_leastChanges 86 = .ok (.iconst 0, 1) := by decide +kernel
theorem dX1_leastChanges_87 : decode cX1_leastChanges 87 = .ok (.invokestatic 53, 3) := by decide +kernel
theorem dX1_leastChanges_90 : decode cX1_leastChanges 90 = .ok (.iadd, 1) := by decide +kernel
theorem dX1_leastChanges_91 : decode cX1_leastChanges 91 = .ok (.istore 6, 2) := by decide +kernel
theorem dX1_leastChanges_93 : decode cX1_leastChanges 93 = .ok (.aload_n 0, 1) := by decide +kernel
theorem dX1_leastChanges_94 : decode cX1_leastChanges 94 = .ok (.getfield 21, 3) := by decide +kernel
theorem dX1_leastChanges_97 : decode cX1_leastChanges 97 = .ok (.iload 5, 2) := by decide +kernel
theorem dX1_leastChanges_99 : decode cX1_leastChanges 99 = .ok (.iaload, 1) := by decide +kernel
theorem dX1_leastChanges_100 : decode cX1_leastChanges 100 = .ok (.istore 4, 2) := by decide +kernel
theorem dX1_leastChanges_102 : decode cX1_leastChanges 102 = .ok (.aload_n 0, 1) := by decide +kernel
theorem dX1_leastChanges_103 : decode cX1_leastChanges 103 = .ok (.getfield 21, 3) := by decide +kernel
theorem dX1_leastChanges_106 : decode cX1_leastChanges 106 = .ok (.iload 5, 2) := by decide +kernel
theorem dX1_leastChanges_108 : decode cX1_leastChanges 108 = .ok (.iload 6, 2) := by decide +kernel
theorem dX1_leastChanges_110 : decode cX1_leastChanges 110 = .ok (.iconst 1, 1) := by decide +kernel
theorem dX1_leastChanges_111 : decode cX1_leastChanges 111 = .ok (.aload_n 0, 1) := by decide +kernel
theorem dX1_leastChanges_112 : decode cX1_leastChanges 112 = .ok (.getfield 21, 3) := by decide +kernel
theorem dX1_leastChanges_115 : decode cX1_leastChanges 115 = .ok (.iload 5, 2) := by decide +kernel
theorem dX1_leastChanges_117 : decode cX1_leastChanges 117 = .ok (.iaload, 1) := by decide +kernel
theorem dX1_leastChanges_118 : decode cX1_leastChanges 118 = .ok (.aload_n 0, 1) := by decide +kernel
theorem dX1_leastChanges_119 : decode cX1_leastChanges 119 = .ok (.getfield 21, 3) := by decide +kernel
theorem dX1_leastChanges_122 : decode cX1_leastChanges 122 = .ok (.iload 5, 2) := by decide +kernel
theorem dX1_leastChanges_124 : decode cX1_leastChanges 124 = .ok (.iconst 1, 1) := by decide +kernel
theorem dX1_leastChanges_125 : decode cX1_leastChanges 125 = .ok (.isub, 1) := by decide +kernel
theorem dX1_leastChanges_126 : decode cX1_leastChanges 126 = .ok (.iaload, 1) := by decide +kernel
theorem dX1_leastChanges_127 : decode cX1_leastChanges 127 = .ok (.invokestatic 57, 3) := by decide +kernel
theorem dX1_leastChanges_130 : decode cX1_leastChanges 130 = .ok (.iadd, 1) := by decide +kernel
theorem dX1_leastChanges_131 : decode cX1_leastChanges 131 = .ok (.invokestatic 57, 3) := by decide +kernel
theorem dX1_leastChanges_134 : decode cX1_leastChanges 134 = .ok (.iastore, 1) := by decide +kernel
theorem dX1_leastChanges_135 : decode cX1_leastChanges 135 = .ok (.iinc 5 1, 3) := by decide +kernel
theorem dX1_leastChanges_138 : decode cX1_leastChanges 138 = .ok (.goto (-87), 3) := by decide +kernel
theorem dX1_leastChanges_141 : decode cX1_leastChanges 141 = .ok (.iinc 3 1, 3) := by decide +kernel
theorem dX1_leastChanges_144 : decode cX1_leastChanges 144 = .ok (.goto (-119), 3) := by decide +kernel
theorem dX1_leastChanges_147 : decode cX1_leastChanges 147 = .ok (.aload_n 0, 1) := by decide +kernel
theorem dX1_leastChanges_148 : decode cX1_leastChanges 148 = .ok (.getfield 21, 3) := by decide +kernel
theorem dX1_leastChanges_151 : decode cX1_leastChanges 151 = .ok (.aload_n 2, 1) := by decide +kernel
theorem dX1_leastChanges_152 : decode cX1_leastChanges 152 = .ok (.getfield 43, 3) := by decide +kernel
theorem dX1_leastChanges_155 : decode cX1_leastChanges 155 = .ok (.iaload, 1) := by decide +kernel
theorem dX1_leastChanges_156 : decode cX1_leastChanges 156 = .ok (.ireturn, 1) := by decide +kernel
theorem dX1_areDoubles_0 : decode cX1_areDoubles 0 = .ok (.aload_n 1, 1) := by decide +kernel
theorem dX1_areDoubles_1 : decode cX1_areDoubles 1 = .ok (.getfield 43, 3) := by decide +kernel
theorem dX1_areDoubles_4 : decode cX1_areDoubles 4 = .ok (.ifCond .eq 10, 3) := by decide +kernel
theorem dX1_areDoubles_7 : decode cX1_areDoubles 7 = .ok (.aload_n 2, 1) := by decide +kernel
theorem dX1_areDoubles_8 : decode cX1_areDoubles 8 = .ok (.getfield 43, 3) := by decide +kernel
theorem dX1_areDoubles_11 : decode cX1_areDoubles 11 = .ok (.ifCond .ne 5, 3) := by decide +kernel
theorem dX1_areDoubles_14 : decode cX1_areDoubles 14 = .ok (.iconst 0, 1) := by decide +kernel
theorem dX1_areDoubles_15 : decode cX1_areDoubles 15 = .ok (.ireturn, 1) := by decide +kernel
theorem dX1_areDoubles_16 : decode cX1_areDoubles 16 = .ok (.aload_n 1, 1) := by decide +kernel
theorem dX1_areDoubles_17 : decode cX1_areDoubles 17 = .ok (.getfield 43, 3) := by decide +kernel
theorem dX1_areDoubles_20 : decode cX1_areDoubles 20 = .ok (.aload_n 2, 1) := by decide +kernel
theorem dX1_areDoubles_21 : decode cX1_areDoubles 21 = .ok (.getfield 43, 3) := by decide +kernel
theorem dX1_areDoubles_24 : decode cX1_areDoubles 24 = .ok (.if_icmp .le 10, 3) := by decide +kernel
theorem dX1_areDoubles_27 : decode cX1_areDoubles 27 = .ok (.aload_n 1, 1) := by decide +kernel
theorem dX1_areDoubles_28 : decode cX1_areDoubles 28 = .ok (.getfield 43, 3) := by decide +kernel
theorem dX1_areDoubles_31 : decode cX1_areDoubles 31 = .ok (.goto 7, 3) := by decide +kernel
theorem dX1_areDoubles_34 : decode cX1_areDoubles 34 = .ok (.aload_n 2, 1) := by decide +kernel
theorem dX1_areDoubles_35 : decode cX1_areDoubles 35 = .ok (.getfield 43, 3) := by decide +kernel
theorem dX1_areDoubles_38 : decode cX1_areDoubles 38 = .ok (.istore 4, 2) := by decide +kernel
theorem dX1_areDoubles_40 : decode cX1_areDoubles 40 = .ok (.aload_n 1, 1) := by decide +kernel
theorem dX1_areDoubles_41 : decode cX1_areDoubles 41 = .ok (.getfield 43, 3) := by decide +kernel
theorem dX1_areDoubles_44 : decode cX1_areDoubles 44 = .ok (.aload_n 2, 1) := by decide +kernel
theorem dX1_areDoubles_45 : decode cX1_areDoubles 45 = .ok (.getfield 43, 3) := by decide +kernel
theorem dX1_areDoubles_48 : decode cX1_areDoubles 48 = .ok (.iadd, 1) := by decide +kernel
theorem dX1_areDoubles_49 : decode cX1_areDoubles 49 = .ok (.iload 4, 2) := by decide +kernel
theorem dX1_areDoubles_51 : decode cX1_areDoubles 51 = .ok (.isub, 1) := by decide +kernel
theorem dX1_areDoubles_52 : decode cX1_areDoubles 52 = .ok (.istore 5, 2) := by decide +kernel
theorem dX1_areDoubles_54 : decode cX1_areDoubles 54 = .ok (.iload_n 3, 1) := by decide +kernel
theorem dX1_areDoubles_55 : decode cX1_areDoubles 55 = .ok (.iload 4, 2) := by decide +kernel
theorem dX1_areDoubles_57 : decode cX1_areDoubles 57 = .ok (.imul, 1) := by decide +kernel
theorem dX1_areDoubles_58 : decode cX1_areDoubles 58 = .ok (.istore 6, 2) := by decide +kernel
theorem dX1_areDoubles_60 : decode cX1_areDoubles 60 = .ok (.iload 4, 2) := by decide +kernel
theorem dX1_areDoubles_62 : decode cX1_areDoubles 62 = .ok (.iload 5, 2) := by decide +kernel
theorem dX1_areDoubles_64 : decode cX1_areDoubles 64 = .ok (.isub, 1) := by decide +kernel
theorem dX1_areDoubles_65 : decode cX1_areDoubles 65 = .ok (.bipush 100, 2) := by decide +kernel
theorem dX1_areDoubles_67 : decode cX1_areDoubles 67 = .ok (.imul, 1) := by decide +kernel
theorem dX1_areDoubles_68 : decode cX1_areDoubles 68 = .ok (.iload 6, 2) := by decide +kernel
theorem dX1_areDoubles_70 : decode cX1_areDoubles 70 = .ok (.if_icmp .gt 21, 3) := by decide +kernel
theorem dX1_areDoubles_73 : decode cX1_areDoubles 73 = .ok (.aload_n 0, 1) := by decide +kernel
theorem dX1_areDoubles_74 : decode cX1_areDoubles 74 = .ok (.aload_n 1, 1) := by decide +kernel
theorem dX1_areDoubles_75 : decode cX1_areDoubles 75 = .ok (.aload_n 2, 1) := by decide +kernel
theorem dX1_areDoubles_76 : decode cX1_areDoubles 76 = .ok (.invokevirtual 46, 3) := by decide +kernel
theorem dX1_areDoubles_79 : decode cX1_areDoubles 79 = .ok (.bipush 100, 2) := by decide +kernel
theorem dX1_areDoubles_81 : decode cX1_areDoubles 81 = .ok (.imul, 1) := by decide +kernel
theorem dX1_areDoubles_82 : decode cX1_areDoubles 82 = .ok (.iload 6, 2) := by decide +kernel
theorem dX1_areDoubles_84 : decode cX1_areDoubles 84 = .ok (.if_icmp .gt 7, 3) := by decide +kernel
theorem dX1_areDoubles_87 : decode cX1_areDoubles 87 = .ok (.iconst 1, 1) := by decide +kernel
theorem dX1_areDoubles_88 : decode cX1_areDoubles 88 = .ok (.goto 4, 3) := by decide +kernel
theorem dX1_areDoubles_91 : decode cX1_areDoubles 91 = .ok (.iconst 0, 1) := by decide +kernel
theorem dX1_areDoubles_92 : decode cX1_areDoubles 92 = .ok (.ireturn, 1) := by decide +kernel
theorem dX1_gatherOne_0 : decode cX1_gatherOne 0 = .ok (.aload_n 1, 1) := by decide +kernel
theorem dX1_gatherOne_1 : decode cX1_gatherOne 1 = .ok (.iload_n 3, 1) := by decide +kernel
theorem dX1_gatherOne_2 : decode cX1_gatherOne 2 = .ok (.aaload, 1) := by decide +kernel
theorem dX1_gatherOne_3 : decode cX1_gatherOne 3 = .ok (.astore 5, 2) := by decide +kernel
theorem dX1_gatherOne_5 : decode cX1_gatherOne 5 = .ok (.aload 5, 2) := by decide +kernel
theorem dX1_gatherOne_7 : decode cX1_gatherOne 7 = .ok (.aload 5, 2) := by decide +kernel
theorem dX1_gatherOne_9 : decode cX1_gatherOne 9 = .ok (.getfield 33, 3) := by decide +kernel
theorem dX1_gatherOne_12 : decode cX1_gatherOne 12 = .ok (.putfield 25, 3) := by decide +kernel
theorem dX1_gatherOne_15 : decode cX1_gatherOne 15 = .ok (.aload_n 0, 1) := by decide +kernel
theorem dX1_gatherOne_16 : decode cX1_gatherOne 16 = .ok (.getfield 17, 3) := by decide +kernel
theorem dX1_gatherOne_19 : decode cX1_gatherOne 19 = .ok (.iconst 0, 1) := by decide +kernel
theorem dX1_gatherOne_20 : decode cX1_gatherOne 20 = .ok (.aload 5, 2) := by decide +kernel
theorem dX1_gatherOne_22 : decode cX1_gatherOne 22 = .ok (.aastore, 1) := by decide +kernel
theorem dX1_gatherOne_23 : decode cX1_gatherOne 23 = .ok (.iconst 1, 1) := by decide +kernel
theorem dX1_gatherOne_24 : decode cX1_gatherOne 24 = .ok (.istore 6, 2) := by decide +kernel
theorem dX1_gatherOne_26 : decode cX1_gatherOne 26 = .ok (.iconst 0, 1) := by decide +kernel
theorem dX1_gatherOne_27 : decode cX1_gatherOne 27 = .ok (.istore 7, 2) := by decide +kernel
theorem dX1_gatherOne_29 : decode cX1_gatherOne 29 = .ok (.iload 7, 2) := by decide +kernel
theorem dX1_gatherOne_31 : decode cX1_gatherOne 31 = .ok (.iload 6, 2) := by decide +kernel
theorem dX1_gatherOne_33 : decode cX1_gatherOne 33 = .ok (.if_icmp .ge 88, 3) := by decide +kernel
theorem dX1_gatherOne_36 : decode cX1_gatherOne 36 = .ok (.iload 7, 2) := by decide +kernel
theorem dX1_gatherOne_38 : decode cX1_gatherOne 38 = .ok (.iload_n 2, 1) := by decide +kernel
theorem dX1_gatherOne_39 : decode cX1_gatherOne 39 = .ok (.if_icmp .ge 82, 3) := by decide +kernel
theorem dX1_gatherOne_42 : decode cX1_gatherOne 42 = .ok (.iload_n 3, 1) := by decide +kernel
theorem dX1_gatherOne_43 : decode cX1_gatherOne 43 = .ok (.iconst 1, 1) := by decide +kernel
theorem dX1_gatherOne_44 : decode cX1_gatherOne 44 = .ok (.iadd, 1) := by decide +kernel
theorem dX1_gatherOne_45 : decode cX1_gatherOne 45 = .ok (.istore 8, 2) := by decide +kernel
theorem dX1_gatherOne_47 : decode cX1_gatherOne 47 = .ok (.iload 8, 2) := by decide +kernel
theorem dX1_gatherOne_49 : decode cX1_gatherOne 49 = .ok (.iload_n 2, 1) := by decide +kernel
theorem dX1_gatherOne_50 : decode cX1_gatherOne 50 = .ok (.if_icmp .ge 65, 3) := by decide +kernel
theorem dX1_gatherOne_53 : decode cX1_gatherOne 53 = .ok (.aload_n 1, 1) := by decide +kernel
theorem dX1_gatherOne_54 : decode cX1_gatherOne 54 = .ok (.iload 8, 2) := by decide +kernel
theorem dX1_gatherOne_56 : decode cX1_gatherOne 56 = .ok (.aaload, 1) := by decide +kernel
theorem dX1_gatherOne_57 : decode cX1_gatherOne 57 = .ok (.astore 9, 2) := by decide +kernel
theorem dX1_gatherOne_59 : decode cX1_gatherOne 59 = .ok (.aload 9, 2) := by decide +kernel
theorem dX1_gatherOne_61 : decode cX1_gatherOne 61 = .ok (.getfield 25, 3) := by decide +kernel
theorem dX1_gatherOne_64 : decode cX1_gatherOne 64 = .ok (.bipush (-6), 2) := by decide +kernel
theorem dX1_gatherOne_66 : decode cX1_gatherOne 66 = .ok (.if_icmp .ne 43, 3) := by decide +kernel
theorem dX1_gatherOne_69 : decode cX1_gatherOne 69 = .ok (.aload_n 0, 1) := by decide +kernel
theorem dX1_gatherOne_70 : decode cX1_gatherOne 70 = .ok (.aload_n 0, 1) := by decide +kernel
theorem dX1_gatherOne_71 : decode cX1_gatherOne 71 = .ok (.getfield 17, 3) := by decide +kernel
theorem dX1_gatherOne_74 : decode cX1_gatherOne 74 = .ok (.iload 7, 2) := by decide +kernel
theorem dX1_gatherOne_76 : decode cX1_gatherOne 76 = .ok (.aaload, 1) := by decide +kernel
theorem dX1_gatherOne_77 : decode cX1_gatherOne 77 = .ok (.aload 9, 2) := by decide +kernel
theorem dX1_gatherOne_79 : decode cX1_gatherOne 79 = .ok (.iload 4, 2) := by decide +kernel
theorem dX1_gatherOne_81 : decode cX1_gatherOne 81 = .ok (.invokevirtual 36, 3) := by decide +kernel
theorem dX1_gatherOne_84 : decode cX1_gatherOne 84 = .ok (.ifCond .eq 25, 3) := by decide +kernel
theorem dX1_gatherOne_87 : decode cX1_gatherOne 87 = .ok (.aload 9, 2) := by decide +kernel
theorem dX1_gatherOne_89 : decode cX1_gatherOne 89 = .ok (.aload 5, 2) := by decide +kernel
theorem dX1_gatherOne_91 : decode cX1_gatherOne 91 = .ok (.getfield 33, 3) := by decide +kernel
theorem dX1_gatherOne_94 : decode cX1_gatherOne 94 = .ok (.putfield 25, 3) := by decide +kernel
theorem dX1_gatherOne_97 : decode cX1_gatherOne 97 = .ok (.aload_n 0, 1) := by decide +kernel
theorem dX1_gatherOne_98 : decode cX1_gatherOne 98 = .ok (.getfield 17, 3) := by decide +kernel
theorem dX1_gatherOne_101 : decode cX1_gatherOne 101 = .ok (.iload 6, 2) := by decide +kernel
theorem dX1_gatherOne_103 : decode cX1_gatherOne 103 = .ok (.aload 9, 2) := by decide +kernel
theorem dX1_gatherOne_105 : decode cX1_gatherOne 105 = .ok (.aastore, 1) := by decide +kernel
theorem dX1_gatherOne_106 : decode cX1_gatherOne 106 = .ok (.iinc 6 1, 3) := by decide +kernel
theorem dX1_gatherOne_109 : decode cX1_gatherOne 109 = .ok (.iinc 8 1, 3) := by decide +kernel
theorem dX1_gatherOne_112 : decode cX1_gatherOne 112 = .ok (.goto (-65), 3) := by decide +kernel
theorem dX1_gatherOne_115 : decode cX1_gatherOne 115 = .ok (.iinc 7 1, 3) := by decide +kernel
theorem dX1_gatherOne_118 : decode cX1_gatherOne 118 = .ok (.goto (-89), 3) := by decide +kernel
theorem dX1_gatherOne_121 : decode cX1_gatherOne 121 = .ok (.iconst 0, 1) := by decide +kernel
theorem dX1_gatherOne_122 : decode cX1_gatherOne 122 = .ok (.istore 7, 2) := by decide +kernel
theorem dX1_gatherOne_124 : decode cX1_gatherOne 124 = .ok (.iload 7, 2) := by decide +kernel
theorem dX1_gatherOne_126 : decode cX1_gatherOne 126 = .ok (.iload 6, 2) := by decide +kernel
theorem dX1_gatherOne_128 : decode cX1_gatherOne 128 = .ok (.if_icmp .ge 21, 3) := by decide +kernel
theorem dX1_gatherOne_131 : decode cX1_gatherOne 131 = .ok (.aload_n 0, 1) := by decide +kernel
theorem dX1_gatherOne_132 : decode cX1_gatherOne 132 = .ok (.getfield 17, 3) := by decide +kernel
theorem dX1_gatherOne_135 : decode cX1_gatherOne 135 = .ok (.iload 7, 2) := by decide +kernel
theorem dX1_gatherOne_137 : decode cX1_gatherOne 137 = .ok (.aaload, 1) := by decide +kernel
theorem dX1_gatherOne_138 : decode cX1_gatherOne 138 = .ok (.iload 6, 2) := by decide +kernel
theorem dX1_gatherOne_140 : decode cX1_gatherOne 140 = .ok (.putfield 40, 3) := by decide +kernel
theorem dX1_gatherOne_143 : decode cX1_gatherOne 143 = .ok (.iinc 7 1, 3) := by decide +kernel
theorem dX1_gatherOne_146 : decode cX1_gatherOne 146 = .ok (.goto (-22), 3) := by decide +kernel
theorem dX1_gatherOne_149 : decode cX1_gatherOne 149 = .ok (.return_, 1) := by decide +kernel
theorem dX1_gather_0 : decode cX1_gather 0 = .ok (.aload_n 0, 1) := by decide +kernel
theorem dX1_gather_1 : decode cX1_gather 1 = .ok (.getfield 9, 3) := by decide +kernel
theorem dX1_gather_4 : decode cX1_gather 4 = .ok (.ifCond .eq 4, 3) := by decide +kernel
theorem dX1_gather_7 : decode cX1_gather 7 = .ok (.return_, 1) := by decide +kernel
theorem dX1_gather_8 : decode cX1_gather 8 = .ok (.iconst 0, 1) := by decide +kernel
theorem dX1_gather_9 : decode cX1_gather 9 = .ok (.istore 4, 2) := by decide +kernel
theorem dX1_gather_11 : decode cX1_gather 11 = .ok (.iload 4, 2) := by decide +kernel
theorem dX1_gather_13 : decode cX1_gather 13 = .ok (.iload_n 2, 1) := by decide +kernel
theorem dX1_gather_14 : decode cX1_gather 14 = .ok (.if_icmp .ge 18, 3) := by decide +kernel
theorem dX1_gather_17 : decode cX1_gather 17 = .ok (.aload_n 1, 1) := by decide +kernel
theorem dX1_gather_18 : decode cX1_gather 18 = .ok (.iload 4, 2) := by decide +kernel
theorem dX1_gather_20 : decode cX1_gather 20 = .ok (.aaload, 1) := by decide +kernel
theorem dX1_gather_21 : decode cX1_gather 21 = .ok (.bipush (-6), 2) := by decide +kernel
theorem dX1_gather_23 : decode cX1_gather 23 = .ok (.putfield 25, 3) := by decide +kernel
theorem dX1_gather_26 : decode cX1_gather 26 = .ok (.iinc 4 1, 3) := by decide +kernel
theorem dX1_gather_29 : decode cX1_gather 29 = .ok (.goto (-18), 3) := by decide +kernel
theorem dX1_gather_32 : decode cX1_gather 32 = .ok (.iconst 0, 1) := by decide +kernel
theorem dX1_gather_33 : decode cX1_gather 33 = .ok (.istore 4, 2) := by decide +kernel
theorem dX1_gather_35 : decode cX1_gather 35 = .ok (.iload 4, 2) := by decide +kernel
theorem dX1_gather_37 : decode cX1_gather 37 = .ok (.iload_n 2, 1) := by decide +kernel
theorem dX1_gather_38 : decode cX1_gather 38 = .ok (.if_icmp .ge 30, 3) := by decide +kernel
theorem dX1_gather_41 : decode cX1_gather 41 = .ok (.aload_n 1, 1) := by decide +kernel
theorem dX1_gather_42 : decode cX1_gather 42 = .ok (.iload 4, 2) := by decide +kernel
theorem dX1_gather_44 : decode cX1_gather 44 = .ok (.aaload, 1) := by decide +kernel
theorem dX1_gather_45 : decode cX1_gather 45 = .ok (.getfield 25, 3) := by decide +kernel
theorem dX1_gather_48 : decode cX1_gather 48 = .ok (.bipush (-6), 2) := by decide +kernel
theorem dX1_gather_50 : decode cX1_gather 50 = .ok (.if_icmp .ne 12, 3) := by decide +kernel
theorem dX1_gather_53 : decode cX1_gather 53 = .ok (.aload_n 0, 1) := by decide +kernel
theorem dX1_gather_54 : decode cX1_gather 54 = .ok (.aload_n 1, 1) := by decide +kernel
theorem dX1_gather_55 : decode cX1_gather 55 = .ok (.iload_n 2, 1) := by decide +kernel
theorem dX1_gather_56 : decode cX1_gather 56 = .ok (.iload 4, 2) := by decide +kernel
theorem dX1_gather_58 : decode cX1_gather 58 = .ok (.iload_n 3, 1) := by decide +kernel
theorem dX1_gather_59 : decode cX1_gather 59 = .ok (.invokevirtual 29, 3) := by decide +kernel
theorem dX1_gather_62 : decode cX1_gather 62 = .ok (.iinc 4 1, 3) := by decide +kernel
theorem dX1_gather_65 : decode cX1_gather 65 = .ok (.goto (-30), 3) := by decide +kernel
theorem dX1_gather_68 : decode cX1_gather 68 = .ok (.aload_n 0, 1) := by decide +kernel
theorem dX1_gather_69 : decode cX1_gather 69 = .ok (.iconst 1, 1) := by decide +kernel
theorem dX1_gather_70 : decode cX1_gather 70 = .ok (.putfield 9, 3) := by decide +kernel
theorem dX1_gather_73 : decode cX1_gather 73 = .ok (.return_, 1) := by decide +kernel
theorem dX9_about_0 : decode cX9_about 0 = .ok (.aload_n 0, 1) := by decide +kernel
theorem dX9_about_1 : decode cX9_about 1 = .ok (.iload_n 1, 1) := by decide +kernel
theorem dX9_about_2 : decode cX9_about 2 = .ok (.invokevirtual 158, 3) := by decide +kernel
theorem dX9_about_5 : decode cX9_about 5 = .ok (.astore_n 3, 1) := by decide +kernel
theorem dX9_about_6 : decode cX9_about 6 = .ok (.aload_n 3, 1) := by decide +kernel
theorem dX9_about_7 : decode cX9_about 7 = .ok (.ifnonnull 5, 3) := by decide +kernel
theorem dX9_about_10 : decode cX9_about 10 = .ok (.iconst (-1), 1) := by decide +kernel
theorem dX9_about_11 : decode cX9_about 11 = .ok (.ireturn, 1) := by decide +kernel
theorem dX9_about_12 : decode cX9_about 12 = .ok (.iload_n 2, 1) := by decide +kernel
theorem dX9_about_13 : decode cX9_about 13 = .ok (.iconst 4, 1) := by decide +kernel
theorem dX9_about_14 : decode cX9_about 14 = .ok (.if_icmp .eq 8, 3) := by decide +kernel
theorem dX9_about_17 : decode cX9_about 17 = .ok (.iload_n 2, 1) := by decide +kernel
theorem dX9_about_18 : decode cX9_about 18 = .ok (.iconst 5, 1) := by decide +kernel
theorem dX9_about_19 : decode cX9_about 19 = .ok (.if_icmp .ne 24, 3) := by decide +kernel
theorem dX9_about_22 : decode cX9_about 22 = .ok (.aload_n 0, 1) := by decide +kernel
theorem dX9_about_23 : decode cX9_about 23 = .ok (.getfield 54, 3) := by decide +kernel
theorem dX9_about_26 : decode cX9_about 26 = .ok (.aload_n 0, 1) := by decide +kernel
theorem dX9_about_27 : decode cX9_about 27 = .ok (.getfield 32, 3) := by decide +kernel
theorem dX9_about_30 : decode cX9_about 30 = .ok (.aload_n 0, 1) := by decide +kernel
theorem dX9_about_31 : decode cX9_about 31 = .ok (.getfield 29, 3) := by decide +kernel
theorem dX9_about_34 : decode cX9_about 34 = .ok (.aload_n 0, 1) := by decide +kernel
theorem dX9_about_35 : decode cX9_about 35 = .ok (.getfield 7, 3) := by decide +kernel
theorem dX9_about_38 : decode cX9_about 38 = .ok (.iconst 0, 1) := by decide +kernel
theorem dX9_about_39 : decode cX9_about 39 = .ok (.iaload, 1) := by decide +kernel
theorem dX9_about_40 : decode cX9_about 40 = .ok (.invokevirtual 162, 3) := by decide +kernel
theorem dX9_about_43 : decode cX9_about 43 = .ok (.iload_n 2, 1) := by decide +kernel
theorem dX9_about_44 : decode cX9_about 44 = .ok (.tableswitch 73 0 5 #[40, 48, 53, 58, 63, 68], 40) := by decide +kernel
theorem dX9_about_84 : decode cX9_about 84 = .ok (.aload_n 3, 1) := by decide +kernel
theorem dX9_about_85 : decode cX9_about 85 = .ok (.getfield 166, 3) := by decide +kernel
theorem dX9_about_88 : decode cX9_about 88 = .ok (.getfield 138, 3) := by decide +kernel
theorem dX9_about_91 : decode cX9_about 91 = .ok (.ireturn, 1) := by decide +kernel
theorem dX9_about_92 : decode cX9_about 92 = .ok (.aload_n 3, 1) := by decide +kernel
theorem dX9_about_93 : decode cX9_about 93 = .ok (.getfield 169, 3) := by decide +kernel
theorem dX9_about_96 : decode cX9_about 96 = .ok (.ireturn, 1) := by decide +kernel
theorem dX9_about_97 : decode cX9_about 97 = .ok (.aload_n 3, 1) := by decide +kernel
theorem dX9_about_98 : decode cX9_about 98 = .ok (.getfield 172, 3) := by decide +kernel
theorem dX9_about_101 : decode cX9_about 101 = .ok (.ireturn, 1) := by decide +kernel
theorem dX9_about_102 : decode cX9_about 102 = .ok (.aload_n 3, 1) := by decide +kernel
theorem dX9_about_103 : decode cX9_about 103 = .ok (.getfield 174, 3) := by decide +kernel
theorem dX9_about_106 : decode cX9_about 106 = .ok (.ireturn, 1) := by decide +kernel
theorem dX9_about_107 : decode cX9_about 107 = .ok (.aload_n 3, 1) := by decide +kernel
theorem dX9_about_108 : decode cX9_about 108 = .ok (.getfield 177, 3) := by decide +kernel
theorem dX9_about_111 : decode cX9_about 111 = .ok (.ireturn, 1) := by decide +kernel
theorem dX9_about_112 : decode cX9_about 112 = .ok (.aload_n 3, 1) := by decide +kernel
theorem dX9_about_113 : decode cX9_about 113 = .ok (.getfield 180, 3) := by decide +kernel
theorem dX9_about_116 : decode cX9_about 116 = .ok (.ireturn, 1) := by decide +kernel
theorem dX9_about_117 : decode cX9_about 117 = .ok (.bipush (-2), 2) := by decide +kernel
theorem dX9_about_119 : decode cX9_about 119 = .ok (.ireturn, 1) := by decide +kernel
theorem dX9_word_0 : decode cX9_word 0 = .ok (.aload_n 0, 1) := by decide +kernel
theorem dX9_word_1 : decode cX9_word 1 = .ok (.iload_n 1, 1) := by decide +kernel
theorem dX9_word_2 : decode cX9_word 2 = .ok (.invokevirtual 158, 3) := by decide +kernel
theorem dX9_word_5 : decode cX9_word 5 = .ok (.astore_n 3, 1) := by decide +kernel
theorem dX9_word_6 : decode cX9_word 6 = .ok (.aload_n 3, 1) := by decide +kernel
theorem dX9_word_7 : decode cX9_word 7 = .ok (.ifnonnull 5, 3) := by decide +kernel
theorem dX9_word_10 : decode cX9_word 10 = .ok (.iconst (-1), 1) := by decide +kernel
theorem dX9_word_11 : decode cX9_word 11 = .ok (.ireturn, 1) := by decide +kernel
theorem dX9_word_12 : decode cX9_word 12 = .ok (.iload_n 2, 1) := by decide +kernel
theorem dX9_word_13 : decode cX9_word 13 = .ok (.iconst 0, 1) := by decide +kernel
theorem dX9_word_14 : decode cX9_word 14 = .ok (.aload_n 3, 1) := by decide +kernel
theorem dX9_word_15 : decode cX9_word 15 = .ok (.getfield 169, 3) := by decide +kernel
theorem dX9_word_18 : decode cX9_word 18 = .ok (.iconst 1, 1) := by decide +kernel
theorem dX9_word_19 : decode cX9_word 19 = .ok (.isub, 1) := by decide +kernel
theorem dX9_word_20 : decode cX9_word 20 = .ok (.invokestatic 95, 3) := by decide +kernel
theorem dX9_word_23 : decode cX9_word 23 = .ok (.ifCond .eq 12, 3) := by decide +kernel
theorem dX9_word_26 : decode cX9_word 26 = .ok (.aload_n 3, 1) := by decide +kernel
theorem dX9_word_27 : decode cX9_word 27 = .ok (.getfield 183, 3) := by decide +kernel
theorem dX9_word_30 : decode cX9_word 30 = .ok (.iload_n 2, 1) := by decide +kernel
theorem dX9_word_31 : decode cX9_word 31 = .ok (.iaload, 1) := by decide +kernel
theorem dX9_word_32 : decode cX9_word 32 = .ok (.goto 5, 3) := by decide +kernel
theorem dX9_word_35 : decode cX9_word 35 = .ok (.bipush (-6), 2) := by decide +kernel
theorem dX9_word_37 : decode cX9_word 37 = .ok (.ireturn, 1) := by decide +kernel
theorem dX6_clashesWith_0 : decode cX6_clashesWith 0 = .ok (.aload_n 0, 1) := by decide +kernel
theorem dX6_clashesWith_1 : decode cX6_clashesWith 1 = .ok (.getfield 38, 3) := by decide +kernel
theorem dX6_clashesWith_4 : decode cX6_clashesWith 4 = .ok (.aload_n 1, 1) := by decide +kernel
theorem dX6_clashesWith_5 : decode cX6_clashesWith 5 = .ok (.getfield 41, 3) := by decide +kernel
theorem dX6_clashesWith_8 : decode cX6_clashesWith 8 = .ok (.if_icmp .gt 14, 3) := by decide +kernel
theorem dX6_clashesWith_11 : decode cX6_clashesWith 11 = .ok (.aload_n 1, 1) := by decide +kernel
theorem dX6_clashesWith_12 : decode cX6_clashesWith 12 = .ok (.getfield 38, 3) := by decide +kernel
theorem dX6_clashesWith_15 : decode cX6_clashesWith 15 = .ok (.aload_n 0, 1) := by decide +kernel
theorem dX6_clashesWith_16 : decode cX6_clashesWith 16 = .ok (.getfield 41, 3) := by decide +kernel
theorem dX6_clashesWith_19 : decode cX6_clashesWith 19 = .ok (.if_icmp .le 5, 3) := by decide +kernel
theorem dX6_clashesWith_22 : decode cX6_clashesWith 22 = .ok (.iconst 0, 1) := by decide +kernel
theorem dX6_clashesWith_23 : decode cX6_clashesWith 23 = .ok (.ireturn, 1) := by decide +kernel
theorem dX6_clashesWith_24 : decode cX6_clashesWith 24 = .ok (.aload_n 0, 1) := by decide +kernel
theorem dX6_clashesWith_25 : decode cX6_clashesWith 25 = .ok (.getfield 34, 3) := by decide +kernel
theorem dX6_clashesWith_28 : decode cX6_clashesWith 28 = .ok (.aload_n 1, 1) := by decide +kernel
theorem dX6_clashesWith_29 : decode cX6_clashesWith 29 = .ok (.getfield 34, 3) := by decide +kernel
theorem dX6_clashesWith_32 : decode cX6_clashesWith 32 = .ok (.if_acmp .ne 31, 3) := by decide +kernel
theorem dX6_clashesWith_35 : decode cX6_clashesWith 35 = .ok (.aload_n 0, 1) := by decide +kernel
theorem dX6_clashesWith_36 : decode cX6_clashesWith 36 = .ok (.getfield 44, 3) := by decide +kernel
theorem dX6_clashesWith_39 : decode cX6_clashesWith 39 = .ok (.aload_n 1, 1) := by decide +kernel
theorem dX6_clashesWith_40 : decode cX6_clashesWith 40 = .ok (.getfield 47, 3) := by decide +kernel
theorem dX6_clashesWith_43 : decode cX6_clashesWith 43 = .ok (.if_icmp .gt 18, 3) := by decide +kernel
theorem dX6_clashesWith_46 : decode cX6_clashesWith 46 = .ok (.aload_n 1, 1) := by decide +kernel
theorem dX6_clashesWith_47 : decode cX6_clashesWith 47 = .ok (.getfield 44, 3) := by decide +kernel
theorem dX6_clashesWith_50 : decode cX6_clashesWith 50 = .ok (.aload_n 0, 1) := by decide +kernel
theorem dX6_clashesWith_51 : decode cX6_clashesWith 51 = .ok (.getfield 47, 3) := by decide +kernel
theorem dX6_clashesWith_54 : decode cX6_clashesWith 54 = .ok (.if_icmp .gt 7, 3) := by decide +kernel
theorem dX6_clashesWith_57 : decode cX6_clashesWith 57 = .ok (.iconst 1, 1) := by decide +kernel
theorem dX6_clashesWith_58 : decode cX6_clashesWith 58 = .ok (.goto 4, 3) := by decide +kernel
theorem dX6_clashesWith_61 : decode cX6_clashesWith 61 = .ok (.iconst 0, 1) := by decide +kernel
theorem dX6_clashesWith_62 : decode cX6_clashesWith 62 = .ok (.ireturn, 1) := by decide +kernel
theorem dX6_clashesWith_63 : decode cX6_clashesWith 63 = .ok (.bipush 9, 2) := by decide +kernel
theorem dX6_clashesWith_65 : decode cX6_clashesWith 65 = .ok (.istore_n 2, 1) := by decide +kernel
theorem dX6_clashesWith_66 : decode cX6_clashesWith 66 = .ok (.aload_n 0, 1) := by decide +kernel
theorem dX6_clashesWith_67 : decode cX6_clashesWith 67 = .ok (.getfield 34, 3) := by decide +kernel
theorem dX6_clashesWith_70 : decode cX6_clashesWith 70 = .ok (.getfield 53, 3) := by decide +kernel
theorem dX6_clashesWith_73 : decode cX6_clashesWith 73 = .ok (.aload_n 1, 1) := by decide +kernel
theorem dX6_clashesWith_74 : decode cX6_clashesWith 74 = .ok (.getfield 34, 3) := by decide +kernel
theorem dX6_clashesWith_77 : decode cX6_clashesWith 77 = .ok (.if_acmp .ne 33, 3) := by decide +kernel
theorem dX6_clashesWith_80 : decode cX6_clashesWith 80 = .ok (.aload_n 0, 1) := by decide +kernel
theorem dX6_clashesWith_81 : decode cX6_clashesWith 81 = .ok (.getfield 44, 3) := by decide +kernel
theorem dX6_clashesWith_84 : decode cX6_clashesWith 84 = .ok (.iload_n 2, 1) := by decide +kernel
theorem dX6_clashesWith_85 : decode cX6_clashesWith 85 = .ok (.aload_n 1, 1) := by decide +kernel
theorem dX6_clashesWith_86 : decode cX6_clashesWith 86 = .ok (.getfield 44, 3) := by decide +kernel
theorem dX6_clashesWith_89 : decode cX6_clashesWith 89 = .ok (.isub, 1) := by decide +kernel
theorem dX6_clashesWith_90 : decode cX6_clashesWith 90 = .ok (.if_icmp .gt 20, 3) := by decide +kernel
theorem dX6_clashesWith_93 : decode cX6_clashesWith 93 = .ok (.iload_n 2, 1) := by decide +kernel
theorem dX6_clashesWith_94 : decode cX6_clashesWith 94 = .ok (.aload_n 1, 1) := by decide +kernel
theorem dX6_clashesWith_95 : decode cX6_clashesWith 95 = .ok (.getfield 47, 3) := by decide +kernel
theorem dX6_clashesWith_98 : decode cX6_clashesWith 98 = .ok (.isub, 1) := by decide +kernel
theorem dX6_clashesWith_99 : decode cX6_clashesWith 99 = .ok (.aload_n 0, 1) := by decide +kernel
theorem dX6_clashesWith_100 : decode cX6_clashesWith 100 = .ok (.getfield 47, 3) := by decide +kernel
theorem dX6_clashesWith_103 : decode cX6_clashesWith 103 = .ok (.if_icmp .gt 7, 3) := by decide +kernel
theorem dX6_clashesWith_106 : decode cX6_clashesWith 106 = .ok (.iconst 1, 1) := by decide +kernel
theorem dX6_clashesWith_107 : decode cX6_clashesWith 107 = .ok (.goto 4, 3) := by decide +kernel
theorem dX6_clashesWith_110 : decode cX6_clashesWith 110 = .ok (.iconst 0, 1) := by decide +kernel
theorem dX6_clashesWith_111 : decode cX6_clashesWith 111 = .ok (.ireturn, 1) := by decide +kernel
theorem dX9_clash_0 : decode cX9_clash 0 = .ok (.aload_n 0, 1) := by decide +kernel
theorem dX9_clash_1 : decode cX9_clash 1 = .ok (.iload_n 1, 1) := by decide +kernel
theorem dX9_clash_2 : decode cX9_clash 2 = .ok (.invokevirtual 158, 3) := by decide +kernel
theorem dX9_clash_5 : decode cX9_clash 5 = .ok (.astore_n 3, 1) := by decide +kernel
theorem dX9_clash_6 : decode cX9_clash 6 = .ok (.aload_n 0, 1) := by decide +kernel
theorem dX9_clash_7 : decode cX9_clash 7 = .ok (.iload_n 2, 1) := by decide +kernel
theorem dX9_clash_8 : decode cX9_clash 8 = .ok (.invokevirtual 158, 3) := by decide +kernel
theorem dX9_clash_11 : decode cX9_clash 11 = .ok (.astore 4, 2) := by decide +kernel
theorem dX9_clash_13 : decode cX9_clash 13 = .ok (.aload_n 3, 1) := by decide +kernel
theorem dX9_clash_14 : decode cX9_clash 14 = .ok (.ifnull 8, 3) := by decide +kernel
theorem dX9_clash_17 : decode cX9_clash 17 = .ok (.aload 4, 2) := by decide +kernel
theorem dX9_clash_19 : decode cX9_clash 19 = .ok (.ifnonnull 5, 3) := by decide +kernel
theorem dX9_clash_22 : decode cX9_clash 22 = .ok (.iconst (-1), 1) := by decide +kernel
theorem dX9_clash_23 : decode cX9_clash 23 = .ok (.ireturn, 1) := by decide +kernel
theorem dX9_clash_24 : decode cX9_clash 24 = .ok (.aload_n 3, 1) := by decide +kernel
theorem dX9_clash_25 : decode cX9_clash 25 = .ok (.aload 4, 2) := by decide +kernel
theorem dX9_clash_27 : decode cX9_clash 27 = .ok (.invokevirtual 184, 3) := by decide +kernel
theorem dX9_clash_30 : decode cX9_clash 30 = .ok (.invokestatic 188, 3) := by decide +kernel
theorem dX9_clash_33 : decode cX9_clash 33 = .ok (.ireturn, 1) := by decide +kernel
theorem dX9_say_0 : decode cX9_say 0 = .ok (.iload_n 1, 1) := by decide +kernel
theorem dX9_say_1 : decode cX9_say 1 = .ok (.bipush 33, 2) := by decide +kernel
theorem dX9_say_3 : decode cX9_say 3 = .ok (.bipush 126, 2) := by decide +kernel
theorem dX9_say_5 : decode cX9_say 5 = .ok (.invokestatic 95, 3) := by decide +kernel
theorem dX9_say_8 : decode cX9_say 8 = .ok (.ifCond .ne 6, 3) := by decide +kernel
theorem dX9_say_11 : decode cX9_say 11 = .ok (.bipush (-2), 2) := by decide +kernel
theorem dX9_say_13 : decode cX9_say 13 = .ok (.ireturn, 1) := by decide +kernel
theorem dX9_say_14 : decode cX9_say 14 = .ok (.aload_n 0, 1) := by decide +kernel
theorem dX9_say_15 : decode cX9_say 15 = .ok (.getfield 47, 3) := by decide +kernel
theorem dX9_say_18 : decode cX9_say 18 = .ok (.getfield 192, 3) := by decide +kernel
theorem dX9_say_21 : decode cX9_say 21 = .ok (.bipush 40, 2) := by decide +kernel
theorem dX9_say_23 : decode cX9_say 23 = .ok (.if_icmp .lt 6, 3) := by decide +kernel
theorem dX9_say_26 : decode cX9_say 26 = .ok (.bipush (-4), 2) := by decide +kernel
theorem dX9_say_28 : decode cX9_say 28 = .ok (.ireturn, 1) := by decide +kernel
theorem dX9_say_29 : decode cX9_say 29 = .ok (.aload_n 0, 1) := by decide +kernel
theorem dX9_say_30 : decode cX9_say 30 = .ok (.getfield 47, 3) := by decide +kernel
theorem dX9_say_33 : decode cX9_say 33 = .ok (.getfield 195, 3) := by decide +kernel
theorem dX9_say_36 : decode cX9_say 36 = .ok (.aload_n 0, 1) := by decide +kernel
theorem dX9_say_37 : decode cX9_say 37 = .ok (.getfield 47, 3) := by decide +kernel
theorem dX9_say_40 : decode cX9_say 40 = .ok (.getfield 192, 3) := by decide +kernel
theorem dX9_say_43 : decode cX9_say 43 = .ok (.iload_n 1, 1) := by decide +kernel
theorem dX9_say_44 : decode cX9_say 44 = .ok (.iastore, 1) := by decide +kernel
theorem dX9_say_45 : decode cX9_say 45 = .ok (.aload_n 0, 1) := by decide +kernel
theorem dX9_say_46 : decode cX9_say 46 = .ok (.getfield 47, 3) := by decide +kernel
theorem dX9_say_49 : decode cX9_say 49 = .ok (.dup, 1) := by decide +kernel
theorem dX9_say_50 : decode cX9_say 50 = .ok (.getfield 192, 3) := by decide +kernel
theorem dX9_say_53 : decode cX9_say 53 = .ok (.iconst 1, 1) := by decide +kernel
theorem dX9_say_54 : decode cX9_say 54 = .ok (.iadd, 1) := by decide +kernel
theorem dX9_say_55 : decode cX9_say 55 = .ok (.putfield 192, 3) := by decide +kernel
theorem dX9_say_58 : decode cX9_say 58 = .ok (.aload_n 0, 1) := by decide +kernel
theorem dX9_say_59 : decode cX9_say 59 = .ok (.getfield 47, 3) := by decide +kernel
theorem dX9_say_62 : decode cX9_say 62 = .ok (.getfield 192, 3) := by decide +kernel
theorem dX9_say_65 : decode cX9_say 65 = .ok (.ireturn, 1) := by decide +kernel
theorem dX9_wipe_0 : decode cX9_wipe 0 = .ok (.aload_n 0, 1) := by decide +kernel
theorem dX9_wipe_1 : decode cX9_wipe 1 = .ok (.getfield 47, 3) := by decide +kernel
theorem dX9_wipe_4 : decode cX9_wipe 4 = .ok (.getfield 192, 3) := by decide +kernel
theorem dX9_wipe_7 : decode cX9_wipe 7 = .ok (.istore_n 1, 1) := by decide +kernel
theorem dX9_wipe_8 : decode cX9_wipe 8 = .ok (.aload_n 0, 1) := by decide +kernel
theorem dX9_wipe_9 : decode cX9_wipe 9 = .ok (.getfield 47, 3) := by decide +kernel
theorem dX9_wipe_12 : decode cX9_wipe 12 = .ok (.iconst 0, 1) := by decide +kernel
theorem dX9_wipe_13 : decode cX9_wipe 13 = .ok (.putfield 192, 3) := by decide +kernel
theorem dX9_wipe_16 : decode cX9_wipe 16 = .ok (.iload_n 1, 1) := by decide +kernel
theorem dX9_wipe_17 : decode cX9_wipe 17 = .ok (.ireturn, 1) := by decide +kernel
theorem dX8_stateAfterItem_0 : decode cX8_stateAfterItem 0 = .ok (.iload_n 0, 1) := by decide +kernel
theorem dX8_stateAfterItem_1 : decode cX8_stateAfterItem 1 = .ok (.bipush 38, 2) := by decide +kernel
theorem dX8_stateAfterItem_3 : decode cX8_stateAfterItem 3 = .ok (.if_icmp .eq 9, 3) := by decide +kernel
theorem dX8_stateAfterItem_6 : decode cX8_stateAfterItem 6 = .ok (.iload_n 0, 1) := by decide +kernel
theorem dX8_stateAfterItem_7 : decode cX8_stateAfterItem 7 = .ok (.bipush 124, 2) := by decide +kernel
theorem dX8_stateAfterItem_9 : decode cX8_stateAfterItem 9 = .ok (.if_icmp .ne 5, 3) := by decide +kernel
theorem dX8_stateAfterItem_12 : decode cX8_stateAfterItem 12 = .ok (.iconst 0, 1) := by decide +kernel
theorem dX8_stateAfterItem_13 : decode cX8_stateAfterItem 13 = .ok (.ireturn, 1) := by decide +kernel
theorem dX8_stateAfterItem_14 : decode cX8_stateAfterItem 14 = .ok (.iload_n 0, 1) := by decide +kernel
theorem dX8_stateAfterItem_15 : decode cX8_stateAfterItem 15 = .ok (.bipush 41, 2) := by decide +kernel
theorem dX8_stateAfterItem_17 : decode cX8_stateAfterItem 17 = .ok (.if_icmp .ne 12, 3) := by decide +kernel
theorem dX8_stateAfterItem_20 : decode cX8_stateAfterItem 20 = .ok (.iload_n 1, 1) := by decide +kernel
theorem dX8_stateAfterItem_21 : decode cX8_stateAfterItem 21 = .ok (.ifCond .le 8, 3) := by decide +kernel
theorem dX8_stateAfterItem_24 : decode cX8_stateAfterItem 24 = .ok (.bipush 8, 2) := by decide +kernel
theorem dX8_stateAfterItem_26 : decode cX8_stateAfterItem 26 = .ok (.goto 4, 3) := by decide +kernel
theorem dX8_stateAfterItem_29 : decode cX8_stateAfterItem 29 = .ok (.iconst (-1), 1) := by decide +kernel
theorem dX8_stateAfterItem_30 : decode cX8_stateAfterItem 30 = .ok (.ireturn, 1) := by decide +kernel
theorem dX8_stateAfterWord_0 : decode cX8_stateAfterWord 0 = .ok (.iload_n 0, 1) := by decide +kernel
theorem dX8_stateAfterWord_1 : decode cX8_stateAfterWord 1 = .ok (.bipush 126, 2) := by decide +kernel
theorem dX8_stateAfterWord_3 : decode cX8_stateAfterWord 3 = .ok (.if_icmp .ne 5, 3) := by decide +kernel
theorem dX8_stateAfterWord_6 : decode cX8_stateAfterWord 6 = .ok (.iconst 3, 1) := by decide +kernel
theorem dX8_stateAfterWord_7 : decode cX8_stateAfterWord 7 = .ok (.ireturn, 1) := by decide +kernel
theorem dX8_stateAfterWord_8 : decode cX8_stateAfterWord 8 = .ok (.iload_n 0, 1) := by decide +kernel
theorem dX8_stateAfterWord_9 : decode cX8_stateAfterWord 9 = .ok (.bipush 62, 2) := by decide +kernel
theorem dX8_stateAfterWord_11 : decode cX8_stateAfterWord 11 = .ok (.if_icmp .ne 8, 3) := by decide +kernel
theorem dX8_stateAfterWord_14 : decode cX8_stateAfterWord 14 = .ok (.bipush 7, 2) := by decide +kernel
theorem dX8_stateAfterWord_16 : decode cX8_stateAfterWord 16 = .ok (.goto 8, 3) := by decide +kernel
theorem dX8_stateAfterWord_19 : decode cX8_stateAfterWord 19 = .ok (.iload_n 0, 1) := by decide +kernel
theorem dX8_stateAfterWord_20 : decode cX8_stateAfterWord 20 = .ok (.iload_n 1, 1) := by decide +kernel
theorem dX8_stateAfterWord_21 : decode cX8_stateAfterWord 21 = .ok (.invokestatic 27, 3) := by decide +kernel
theorem dX8_stateAfterWord_24 : decode cX8_stateAfterWord 24 = .ok (.ireturn, 1) := by decide +kernel
theorem dX8_stateAfter_0 : decode cX8_stateAfter 0 = .ok (.iload_n 1, 1) := by decide +kernel
theorem dX8_stateAfter_1 : decode cX8_stateAfter 1 = .ok (.bipush 48, 2) := by decide +kernel
theorem dX8_stateAfter_3 : decode cX8_stateAfter 3 = .ok (.if_icmp .lt 13, 3) := by decide +kernel
theorem dX8_stateAfter_6 : decode cX8_stateAfter 6 = .ok (.iload_n 1, 1) := by decide +kernel
theorem dX8_stateAfter_7 : decode cX8_stateAfter 7 = .ok (.bipush 57, 2) := by decide +kernel
theorem dX8_stateAfter_9 : decode cX8_stateAfter 9 = .ok (.if_icmp .gt 7, 3) := by decide +kernel
theorem dX8_stateAfter_12 : decode cX8_stateAfter 12 = .ok (.iconst 1, 1) := by decide +kernel
theorem dX8_stateAfter_13 : decode cX8_stateAfter 13 = .ok (.goto 4, 3) := by decide +kernel
theorem dX8_stateAfter_16 : decode cX8_stateAfter 16 = .ok (.iconst 0, 1) := by decide +kernel
theorem dX8_stateAfter_17 : decode cX8_stateAfter 17 = .ok (.istore_n 3, 1) := by decide +kernel
theorem dX8_stateAfter_18 : decode cX8_stateAfter 18 = .ok (.iload_n 0, 1) := by decide +kernel
theorem dX8_stateAfter_19 : decode cX8_stateAfter 19 = .ok (.tableswitch 154 0 7 #[45, 75, 89, 95, 105, 117, 128, 143], 45) := by decide +kernel
theorem dX8_stateAfter_64 : decode cX8_stateAfter 64 = .ok (.iload_n 1, 1) := by decide +kernel
theorem dX8_stateAfter_65 : decode cX8_stateAfter 65 = .ok (.bipush 33, 2) := by decide +kernel
theorem dX8_stateAfter_67 : decode cX8_stateAfter 67 = .ok (.if_icmp .eq 15, 3) := by decide +kernel
theorem dX8_stateAfter_70 : decode cX8_stateAfter 70 = .ok (.iload_n 1, 1) := by decide +kernel
theorem dX8_stateAfter_71 : decode cX8_stateAfter 71 = .ok (.bipush 40, 2) := by decide +kernel
theorem dX8_stateAfter_73 : decode cX8_stateAfter 73 = .ok (.if_icmp .ne 11, 3) := by decide +kernel
theorem dX8_stateAfter_76 : decode cX8_stateAfter 76 = .ok (.iload_n 2, 1) := by decide +kernel
theorem dX8_stateAfter_77 : decode cX8_stateAfter 77 = .ok (.bipush 8, 2) := by decide +kernel
theorem dX8_stateAfter_79 : decode cX8_stateAfter 79 = .ok (.if_icmp .ge 5, 3) := by decide +kernel
theorem dX8_stateAfter_82 : decode cX8_stateAfter 82 = .ok (.iconst 0, 1) := by decide +kernel
theorem dX8_stateAfter_83 : decode cX8_stateAfter 83 = .ok (.ireturn, 1) := by decide +kernel
theorem dX8_stateAfter_84 : decode cX8_stateAfter 84 = .ok (.iload_n 3, 1) := by decide +kernel
theorem dX8_stateAfter_85 : decode cX8_stateAfter 85 = .ok (.ifCond .eq 7, 3) := by decide +kernel
theorem dX8_stateAfter_88 : decode cX8_stateAfter 88 = .ok (.iconst 1, 1) := by decide +kernel
theorem dX8_stateAfter_89 : decode cX8_stateAfter 89 = .ok (.goto 4, 3) := by decide +kernel
theorem dX8_stateAfter_92 : decode cX8_stateAfter 92 = .ok (.iconst (-1), 1) := by decide +kernel
theorem dX8_stateAfter_93 : decode cX8_stateAfter 93 = .ok (.ireturn, 1) := by decide +kernel
theorem dX8_stateAfter_94 : decode cX8_stateAfter 94 = .ok (.iload_n 3, 1) := by decide +kernel
theorem dX8_stateAfter_95 : decode cX8_stateAfter 95 = .ok (.ifCond .eq 7, 3) := by decide +kernel
theorem dX8_stateAfter_98 : decode cX8_stateAfter 98 = .ok (.iconst 2, 1) := by decide +kernel
theorem dX8_stateAfter_99 : decode cX8_stateAfter 99 = .ok (.goto 8, 3) := by decide +kernel
theorem dX8_stateAfter_102 : decode cX8_stateAfter 102 = .ok (.iload_n 1, 1) := by decide +kernel
theorem dX8_stateAfter_103 : decode cX8_stateAfter 103 = .ok (.iload_n 2, 1) := by decide +kernel
theorem dX8_stateAfter_104 : decode cX8_stateAfter 104 = .ok (.invokestatic 23, 3) := by decide +kernel
theorem dX8_stateAfter_107 : decode cX8_stateAfter 107 = .ok (.ireturn, 1) := by decide +kernel
theorem dX8_stateAfter_108 : decode cX8_stateAfter 108 = .ok (.iload_n 1, 1) := by decide +kernel
theorem dX8_stateAfter_109 : decode cX8_stateAfter 109 = .ok (.iload_n 2, 1) := by decide +kernel
theorem dX8_stateAfter_110 : decode cX8_stateAfter 110 = .ok (.invokestatic 23, 3) := by decide +kernel
theorem dX8_stateAfter_113 : decode cX8_stateAfter 113 = .ok (.ireturn, 1) := by decide +kernel
theorem dX8_stateAfter_114 : decode cX8_stateAfter 114 = .ok (.iload_n 3, 1) := by decide +kernel
theorem dX8_stateAfter_115 : decode cX8_stateAfter 115 = .ok (.ifCond .eq 7, 3) := by decide +kernel
theorem dX8_stateAfter_118 : decode cX8_stateAfter 118 = .ok (.iconst 4, 1) := by decide +kernel
theorem dX8_stateAfter_119 : decode cX8_stateAfter 119 = .ok (.goto 4, 3) := by decide +kernel
theorem dX8_stateAfter_122 : decode cX8_stateAfter 122 = .ok (.iconst (-1), 1) := by decide +kernel
theorem dX8_stateAfter_123 : decode cX8_stateAfter 123 = .ok (.ireturn, 1) := by decide +kernel
theorem dX8_stateAfter_124 : decode cX8_stateAfter 124 = .ok (.iload_n 1, 1) := by decide +kernel
theorem dX8_stateAfter_125 : decode cX8_stateAfter 125 = .ok (.bipush 58, 2) := by decide +kernel
theorem dX8_stateAfter_127 : decode cX8_stateAfter 127 = .ok (.if_icmp .ne 7, 3) := by decide +kernel
theorem dX8_stateAfter_130 : decode cX8_stateAfter 130 = .ok (.iconst 5, 1) := by decide +kernel
theorem dX8_stateAfter_131 : decode cX8_stateAfter 131 = .ok (.goto 4, 3) := by decide +kernel
theorem dX8_stateAfter_134 : decode cX8_stateAfter 134 = .ok (.iconst (-1), 1) := by decide +kernel
theorem dX8_stateAfter_135 : decode cX8_stateAfter 135 = .ok (.ireturn, 1) := by decide +kernel
theorem dX8_stateAfter_136 : decode cX8_stateAfter 136 = .ok (.iload_n 3, 1) := by decide +kernel
theorem dX8_stateAfter_137 : decode cX8_stateAfter 137 = .ok (.ifCond .eq 8, 3) := by decide +kernel
theorem dX8_stateAfter_140 : decode cX8_stateAfter 140 = .ok (.bipush 6, 2) := by decide +kernel
theorem dX8_stateAfter_142 : decode cX8_stateAfter 142 = .ok (.goto 4, 3) := by decide +kernel
theorem dX8_stateAfter_145 : decode cX8_stateAfter 145 = .ok (.iconst (-1), 1) := by decide +kernel
theorem dX8_stateAfter_146 : decode cX8_stateAfter 146 = .ok (.ireturn, 1) := by decide +kernel
theorem dX8_stateAfter_147 : decode cX8_stateAfter 147 = .ok (.iload_n 3, 1) := by decide +kernel
theorem dX8_stateAfter_148 : decode cX8_stateAfter 148 = .ok (.ifCond .eq 8, 3) := by decide +kernel
theorem dX8_stateAfter_151 : decode cX8_stateAfter 151 = .ok (.bipush 8, 2) := by decide +kernel
theorem dX8_stateAfter_153 : decode cX8_stateAfter 153 = .ok (.goto 8, 3) := by decide +kernel
theorem dX8_stateAfter_156 : decode cX8_stateAfter 156 = .ok (.iload_n 1, 1) := by decide +kernel
theorem dX8_stateAfter_157 : decode cX8_stateAfter 157 = .ok (.iload_n 2, 1) := by decide +kernel
theorem dX8_stateAfter_158 : decode cX8_stateAfter 158 = .ok (.invokestatic 27, 3) := by decide +kernel
theorem dX8_stateAfter_161 : decode cX8_stateAfter 161 = .ok (.ireturn, 1) := by decide +kernel
theorem dX8_stateAfter_162 : decode cX8_stateAfter 162 = .ok (.iload_n 3, 1) := by decide +kernel
theorem dX8_stateAfter_163 : decode cX8_stateAfter 163 = .ok (.ifCond .eq 8, 3) := by decide +kernel
theorem dX8_stateAfter_166 : decode cX8_stateAfter 166 = .ok (.bipush 8, 2) := by decide +kernel
theorem dX8_stateAfter_168 : decode cX8_stateAfter 168 = .ok (.goto 4, 3) := by decide +kernel
theorem dX8_stateAfter_171 : decode cX8_stateAfter 171 = .ok (.iconst (-1), 1) := by decide +kernel
theorem dX8_stateAfter_172 : decode cX8_stateAfter 172 = .ok (.ireturn, 1) := by decide +kernel
theorem dX8_stateAfter_173 : decode cX8_stateAfter 173 = .ok (.iload_n 1, 1) := by decide +kernel
theorem dX8_stateAfter_174 : decode cX8_stateAfter 174 = .ok (.iload_n 2, 1) := by decide +kernel
theorem dX8_stateAfter_175 : decode cX8_stateAfter 175 = .ok (.invokestatic 27, 3) := by decide +kernel
theorem dX8_stateAfter_178 : decode cX8_stateAfter 178 = .ok (.ireturn, 1) := by decide +kernel
theorem dX8_faultPlace_0 : decode cX8_faultPlace 0 = .ok (.iconst 0, 1) := by decide +kernel
theorem dX8_faultPlace_1 : decode cX8_faultPlace 1 = .ok (.istore_n 1, 1) := by decide +kernel
theorem dX8_faultPlace_2 : decode cX8_faultPlace 2 = .ok (.iconst 0, 1) := by decide +kernel
theorem dX8_faultPlace_3 : decode cX8_faultPlace 3 = .ok (.istore_n 2, 1) := by decide +kernel
theorem dX8_faultPlace_4 : decode cX8_faultPlace 4 = .ok (.iconst 0, 1) := by decide +kernel
theorem dX8_faultPlace_5 : decode cX8_faultPlace 5 = .ok (.istore_n 3, 1) := by decide +kernel
theorem dX8_faultPlace_6 : decode cX8_faultPlace 6 = .ok (.iload_n 3, 1) := by decide +kernel
theorem dX8_faultPlace_7 : decode cX8_faultPlace 7 = .ok (.aload_n 0, 1) := by decide +kernel
theorem dX8_faultPlace_8 : decode cX8_faultPlace 8 = .ok (.getfield 15, 3) := by decide +kernel
theorem dX8_faultPlace_11 : decode cX8_faultPlace 11 = .ok (.if_icmp .ge 59, 3) := by decide +kernel
theorem dX8_faultPlace_14 : decode cX8_faultPlace 14 = .ok (.iload_n 1, 1) := by decide +kernel
theorem dX8_faultPlace_15 : decode cX8_faultPlace 15 = .ok (.aload_n 0, 1) := by decide +kernel
theorem dX8_faultPlace_16 : decode cX8_faultPlace 16 = .ok (.getfield 11, 3) := by decide +kernel
theorem dX8_faultPlace_19 : decode cX8_faultPlace 19 = .ok (.iload_n 3, 1) := by decide +kernel
theorem dX8_faultPlace_20 : decode cX8_faultPlace 20 = .ok (.iaload, 1) := by decide +kernel
theorem dX8_faultPlace_21 : decode cX8_faultPlace 21 = .ok (.iload_n 2, 1) := by decide +kernel
theorem dX8_faultPlace_22 : decode cX8_faultPlace 22 = .ok (.invokestatic 19, 3) := by decide +kernel
theorem dX8_faultPlace_25 : decode cX8_faultPlace 25 = .ok (.istore_n 1, 1) := by decide +kernel
theorem dX8_faultPlace_26 : decode cX8_faultPlace 26 = .ok (.iload_n 1, 1) := by decide +kernel
theorem dX8_faultPlace_27 : decode cX8_faultPlace 27 = .ok (.iconst (-1), 1) := by decide +kernel
theorem dX8_faultPlace_28 : decode cX8_faultPlace 28 = .ok (.if_icmp .ne 5, 3) := by decide +kernel
theorem dX8_faultPlace_31 : decode cX8_faultPlace 31 = .ok (.iload_n 3, 1) := by decide +kernel
theorem dX8_faultPlace_32 : decode cX8_faultPlace 32 = .ok (.ireturn, 1) := by decide +kernel
theorem dX8_faultPlace_33 : decode cX8_faultPlace 33 = .ok (.aload_n 0, 1) := by decide +kernel
theorem dX8_faultPlace_34 : decode cX8_faultPlace 34 = .ok (.getfield 11, 3) := by decide +kernel
theorem dX8_faultPlace_37 : decode cX8_faultPlace 37 = .ok (.iload_n 3, 1) := by decide +kernel
theorem dX8_faultPlace_38 : decode cX8_faultPlace 38 = .ok (.iaload, 1) := by decide +kernel
theorem dX8_faultPlace_39 : decode cX8_faultPlace 39 = .ok (.bipush 40, 2) := by decide +kernel
theorem dX8_faultPlace_41 : decode cX8_faultPlace 41 = .ok (.if_icmp .ne 9, 3) := by decide +kernel
theorem dX8_faultPlace_44 : decode cX8_faultPlace 44 = .ok (.iinc 2 1, 3) := by decide +kernel
theorem dX8_faultPlace_47 : decode cX8_faultPlace 47 = .ok (.goto 17, 3) := by decide +kernel
theorem dX8_faultPlace_50 : decode cX8_faultPlace 50 = .ok (.aload_n 0, 1) := by decide +kernel
theorem dX8_faultPlace_51 : decode cX8_faultPlace 51 = .ok (.getfield 11, 3) := by decide +kernel
theorem dX8_faultPlace_54 : decode cX8_faultPlace 54 = .ok (.iload_n 3, 1) := by decide +kernel
theorem dX8_faultPlace_55 : decode cX8_faultPlace 55 = .ok (.iaload, 1) := by decide +kernel
theorem dX8_faultPlace_56 : decode cX8_faultPlace 56 = .ok (.bipush 41, 2) := by decide +kernel
theorem dX8_faultPlace_58 : decode cX8_faultPlace 58 = .ok (.if_icmp .ne 6, 3) := by decide +kernel
theorem dX8_faultPlace_61 : decode cX8_faultPlace 61 = .ok (.iinc 2 (-1), 3) := by decide +kernel
theorem dX8_faultPlace_64 : decode cX8_faultPlace 64 = .ok (.iinc 3 1, 3) := by decide +kernel
theorem dX8_faultPlace_67 : decode cX8_faultPlace 67 = .ok (.goto (-61), 3) := by decide +kernel
theorem dX8_faultPlace_70 : decode cX8_faultPlace 70 = .ok (.iload_n 1, 1) := by decide +kernel
theorem dX8_faultPlace_71 : decode cX8_faultPlace 71 = .ok (.iconst 1, 1) := by decide +kernel
theorem dX8_faultPlace_72 : decode cX8_faultPlace 72 = .ok (.if_icmp .eq 20, 3) := by decide +kernel
theorem dX8_faultPlace_75 : decode cX8_faultPlace 75 = .ok (.iload_n 1, 1) := by decide +kernel
theorem dX8_faultPlace_76 : decode cX8_faultPlace 76 = .ok (.iconst 2, 1) := by decide +kernel
theorem dX8_faultPlace_77 : decode cX8_faultPlace 77 = .ok (.if_icmp .eq 15, 3) := by decide +kernel
theorem dX8_faultPlace_80 : decode cX8_faultPlace 80 = .ok (.iload_n 1, 1) := by decide +kernel
theorem dX8_faultPlace_81 : decode cX8_faultPlace 81 = .ok (.bipush 6, 2) := by decide +kernel
theorem dX8_faultPlace_83 : decode cX8_faultPlace 83 = .ok (.if_icmp .eq 9, 3) := by decide +kernel
theorem dX8_faultPlace_86 : decode cX8_faultPlace 86 = .ok (.iload_n 1, 1) := by decide +kernel
theorem dX8_faultPlace_87 : decode cX8_faultPlace 87 = .ok (.bipush 8, 2) := by decide +kernel
theorem dX8_faultPlace_89 : decode cX8_faultPlace 89 = .ok (.if_icmp .ne 7, 3) := by decide +kernel
theorem dX8_faultPlace_92 : decode cX8_faultPlace 92 = .ok (.iconst 1, 1) := by decide +kernel
theorem dX8_faultPlace_93 : decode cX8_faultPlace 93 = .ok (.goto 4, 3) := by decide +kernel
theorem dX8_faultPlace_96 : decode cX8_faultPlace 96 = .ok (.iconst 0, 1) := by decide +kernel
theorem dX8_faultPlace_97 : decode cX8_faultPlace 97 = .ok (.istore_n 3, 1) := by decide +kernel
theorem dX8_faultPlace_98 : decode cX8_faultPlace 98 = .ok (.iload_n 3, 1) := by decide +kernel
theorem dX8_faultPlace_99 : decode cX8_faultPlace 99 = .ok (.ifCond .eq 12, 3) := by decide +kernel
theorem dX8_faultPlace_102 : decode cX8_faultPlace 102 = .ok (.iload_n 2, 1) := by decide +kernel
theorem dX8_faultPlace_103 : decode cX8_faultPlace 103 = .ok (.ifCond .ne 8, 3) := by decide +kernel
theorem dX8_faultPlace_106 : decode cX8_faultPlace 106 = .ok (.bipush (-6), 2) := by decide +kernel
theorem dX8_faultPlace_108 : decode cX8_faultPlace 108 = .ok (.goto 7, 3) := by decide +kernel
theorem dX8_faultPlace_111 : decode cX8_faultPlace 111 = .ok (.aload_n 0, 1) := by decide +kernel
theorem dX8_faultPlace_112 : decode cX8_faultPlace 112 = .ok (.getfield 15, 3) := by decide +kernel
theorem dX8_faultPlace_115 : decode cX8_faultPlace 115 = .ok (.ireturn, 1) := by decide +kernel
theorem dX9_fault_0 : decode cX9_fault 0 = .ok (.aload_n 0, 1) := by decide +kernel
theorem dX9_fault_1 : decode cX9_fault 1 = .ok (.getfield 47, 3) := by decide +kernel
theorem dX9_fault_4 : decode cX9_fault 4 = .ok (.invokevirtual 198, 3) := by decide +kernel
theorem dX9_fault_7 : decode cX9_fault 7 = .ok (.ireturn, 1) := by decide +kernel
theorem dX9_isClient_0 : decode cX9_isClient 0 = .ok (.iload_n 0, 1) := by decide +kernel
theorem dX9_isClient_1 : decode cX9_isClient 1 = .ok (.iconst 0, 1) := by decide +kernel
theorem dX9_isClient_2 : decode cX9_isClient 2 = .ok (.iconst 5, 1) := by decide +kernel
theorem dX9_isClient_3 : decode cX9_isClient 3 = .ok (.invokestatic 95, 3) := by decide +kernel
theorem dX9_isClient_6 : decode cX9_isClient 6 = .ok (.ireturn, 1) := by decide +kernel
theorem dX3_init_0 : decode cX3_init 0 = .ok (.aload_n 0, 1) := by decide +kernel
theorem dX3_init_1 : decode cX3_init 1 = .ok (.invokespecial 1, 3) := by decide +kernel
theorem dX3_init_4 : decode cX3_init 4 = .ok (.aload_n 0, 1) := by decide +kernel
theorem dX3_init_5 : decode cX3_init 5 = .ok (.iload_n 1, 1) := by decide +kernel
theorem dX3_init_6 : decode cX3_init 6 = .ok (.putfield 7, 3) := by decide +kernel
theorem dX3_init_9 : decode cX3_init 9 = .ok (.aload_n 0, 1) := by decide +kernel
theorem dX3_init_10 : decode cX3_init 10 = .ok (.aload_n 2, 1) := by decide +kernel
theorem dX3_init_11 : decode cX3_init 11 = .ok (.putfield 13, 3) := by decide +kernel
theorem dX3_init_14 : decode cX3_init 14 = .ok (.aload_n 0, 1) := by decide +kernel
theorem dX3_init_15 : decode cX3_init 15 = .ok (.iload_n 3, 1) := by decide +kernel
theorem dX3_init_16 : decode cX3_init 16 = .ok (.putfield 17, 3) := by decide +kernel
theorem dX3_init_19 : decode cX3_init 19 = .ok (.aload_n 0, 1) := by decide +kernel
theorem dX3_init_20 : decode cX3_init 20 = .ok (.iload 4, 2) := by decide +kernel
theorem dX3_init_22 : decode cX3_init 22 = .ok (.putfield 20, 3) := by decide +kernel
theorem dX3_init_25 : decode cX3_init 25 = .ok (.aload_n 0, 1) := by decide +kernel
theorem dX3_init_26 : decode cX3_init 26 = .ok (.iload 5, 2) := by decide +kernel
theorem dX3_init_28 : decode cX3_init 28 = .ok (.putfield 23, 3) := by decide +kernel
theorem dX3_init_31 : decode cX3_init 31 = .ok (.aload_n 0, 1) := by decide +kernel
theorem dX3_init_32 : decode cX3_init 32 = .ok (.iload 6, 2) := by decide +kernel
theorem dX3_init_34 : decode cX3_init 34 = .ok (.putfield 26, 3) := by decide +kernel
theorem dX3_init_37 : decode cX3_init 37 = .ok (.aload_n 0, 1) := by decide +kernel
theorem dX3_init_38 : decode cX3_init 38 = .ok (.iload 7, 2) := by decide +kernel
theorem dX3_init_40 : decode cX3_init 40 = .ok (.putfield 29, 3) := by decide +kernel
theorem dX3_init_43 : decode cX3_init 43 = .ok (.return_, 1) := by decide +kernel
theorem dX9_order_0 : decode cX9_order 0 = .ok (.iload_n 1, 1) := by decide +kernel
theorem dX9_order_1 : decode cX9_order 1 = .ok (.invokestatic 202, 3) := by decide +kernel
theorem dX9_order_4 : decode cX9_order 4 = .ok (.ifCond .eq 36, 3) := by decide +kernel
theorem dX9_order_7 : decode cX9_order 7 = .ok (.iload_n 2, 1) := by decide +kernel
theorem dX9_order_8 : decode cX9_order 8 = .ok (.iconst 0, 1) := by decide +kernel
theorem dX9_order_9 : decode cX9_order 9 = .ok (.sipush 1023, 3) := by decide +kernel
theorem dX9_order_12 : decode cX9_order 12 = .ok (.invokestatic 95, 3) := by decide +kernel
theorem dX9_order_15 : decode cX9_order 15 = .ok (.ifCond .eq 25, 3) := by decide +kernel
theorem dX9_order_18 : decode cX9_order 18 = .ok (.iload_n 3, 1) := by decide +kernel
theorem dX9_order_19 : decode cX9_order 19 = .ok (.iload 4, 2) := by decide +kernel
theorem dX9_order_21 : decode cX9_order 21 = .ok (.bipush 100, 2) := by decide +kernel
theorem dX9_order_23 : decode cX9_order 23 = .ok (.invokestatic 145, 3) := by decide +kernel
theorem dX9_order_26 : decode cX9_order 26 = .ok (.ifCond .eq 14, 3) := by decide +kernel
theorem dX9_order_29 : decode cX9_order 29 = .ok (.iload 5, 2) := by decide +kernel
theorem dX9_order_31 : decode cX9_order 31 = .ok (.iconst 0, 1) := by decide +kernel
theorem dX9_order_32 : decode cX9_order 32 = .ok (.bipush 20, 2) := by decide +kernel
theorem dX9_order_34 : decode cX9_order 34 = .ok (.invokestatic 95, 3) := by decide +kernel
theorem dX9_order_37 : decode cX9_order 37 = .ok (.ifCond .ne 6, 3) := by decide +kernel
theorem dX9_order_40 : decode cX9_order 40 = .ok (.bipush (-2), 2) := by decide +kernel
theorem dX9_order_42 : decode cX9_order 42 = .ok (.ireturn, 1) := by decide +kernel
theorem dX9_order_43 : decode cX9_order 43 = .ok (.aload_n 0, 1) := by decide +kernel
theorem dX9_order_44 : decode cX9_order 44 = .ok (.getfield 41, 3) := by decide +kernel
theorem dX9_order_47 : decode cX9_order 47 = .ok (.bipush 10, 2) := by decide +kernel
theorem dX9_order_49 : decode cX9_order 49 = .ok (.if_icmp .lt 6, 3) := by decide +kernel
theorem dX9_order_52 : decode cX9_order 52 = .ok (.bipush (-4), 2) := by decide +kernel
theorem dX9_order_54 : decode cX9_order 54 = .ok (.ireturn, 1) := by decide +kernel
theorem dX9_order_55 : decode cX9_order 55 = .ok (.aload_n 0, 1) := by decide +kernel
theorem dX9_order_56 : decode cX9_order 56 = .ok (.getfield 47, 3) := by decide +kernel
theorem dX9_order_59 : decode cX9_order 59 = .ok (.invokevirtual 198, 3) := by decide +kernel
theorem dX9_order_62 : decode cX9_order 62 = .ok (.bipush (-6), 2) := by decide +kernel
theorem dX9_order_64 : decode cX9_order 64 = .ok (.if_icmp .eq 6, 3) := by decide +kernel
theorem dX9_order_67 : decode cX9_order 67 = .ok (.bipush (-5), 2) := by decide +kernel
theorem dX9_order_69 : decode cX9_order 69 = .ok (.ireturn, 1) := by decide +kernel
theorem dX9_order_70 : decode cX9_order 70 = .ok (.aload_n 0, 1) := by decide +kernel
theorem dX9_order_71 : decode cX9_order 71 = .ok (.getfield 37, 3) := by decide +kernel
theorem dX9_order_74 : decode cX9_order 74 = .ok (.aload_n 0, 1) := by decide +kernel
theorem dX9_order_75 : decode cX9_order 75 = .ok (.getfield 41, 3) := by decide +kernel
theorem dX9_order_78 : decode cX9_order 78 = .ok (.new 35, 3) := by decide +kernel
theorem dX9_order_81 : decode cX9_order 81 = .ok (.dup, 1) := by decide +kernel
theorem dX9_order_82 : decode cX9_order 82 = .ok (.iload_n 1, 1) := by decide +kernel
theorem dX9_order_83 : decode cX9_order 83 = .ok (.aload_n 0, 1) := by decide +kernel
theorem dX9_order_84 : decode cX9_order 84 = .ok (.getfield 47, 3) := by decide +kernel
theorem dX9_order_87 : decode cX9_order 87 = .ok (.iload_n 2, 1) := by decide +kernel
theorem dX9_order_88 : decode cX9_order 88 = .ok (.iload_n 3, 1) := by decide +kernel
theorem dX9_order_89 : decode cX9_order 89 = .ok (.iload 4, 2) := by decide +kernel
theorem dX9_order_91 : decode cX9_order 91 = .ok (.iload 5, 2) := by decide +kernel
theorem dX9_order_93 : decode cX9_order 93 = .ok (.iload 6, 2) := by decide +kernel
theorem dX9_order_95 : decode cX9_order 95 = .ok (.invokespecial 205, 3) := by decide +kernel
theorem dX9_order_98 : decode cX9_order 98 = .ok (.aastore, 1) := by decide +kernel
theorem dX9_order_99 : decode cX9_order 99 = .ok (.aload_n 0, 1) := by decide +kernel
theorem dX9_order_100 : decode cX9_order 100 = .ok (.new 44, 3) := by decide +kernel
theorem dX9_order_103 : decode cX9_order 103 = .ok (.dup, 1) := by decide +kernel
theorem dX9_order_104 : decode cX9_order 104 = .ok (.invokespecial 46, 3) := by decide +kernel
theorem dX9_order_107 : decode cX9_order 107 = .ok (.putfield 47, 3) := by decide +kernel
theorem dX9_order_110 : decode cX9_order 110 = .ok (.aload_n 0, 1) := by decide +kernel
theorem dX9_order_111 : decode cX9_order 111 = .ok (.dup, 1) := by decide +kernel
theorem dX9_order_112 : decode cX9_order 112 = .ok (.getfield 41, 3) := by decide +kernel
theorem dX9_order_115 : decode cX9_order 115 = .ok (.dup_x1, 1) := by decide +kernel
theorem dX9_order_116 : decode cX9_order 116 = .ok (.iconst 1, 1) := by decide +kernel
theorem dX9_order_117 : decode cX9_order 117 = .ok (.iadd, 1) := by decide +kernel
theorem dX9_order_118 : decode cX9_order 118 = .ok (.putfield 41, 3) := by decide +kernel
theorem dX9_order_121 : decode cX9_order 121 = .ok (.ireturn, 1) := by decide +kernel
theorem dX9_orderOf_0 : decode cX9_orderOf 0 = .ok (.iload_n 1, 1) := by decide +kernel
theorem dX9_orderOf_1 : decode cX9_orderOf 1 = .ok (.iconst 0, 1) := by decide +kernel
theorem dX9_orderOf_2 : decode cX9_orderOf 2 = .ok (.aload_n 0, 1) := by decide +kernel
theorem dX9_orderOf_3 : decode cX9_orderOf 3 = .ok (.getfield 41, 3) := by decide +kernel
theorem dX9_orderOf_6 : decode cX9_orderOf 6 = .ok (.iconst 1, 1) := by decide +kernel
theorem dX9_orderOf_7 : decode cX9_orderOf 7 = .ok (.isub, 1) := by decide +kernel
theorem dX9_orderOf_8 : decode cX9_orderOf 8 = .ok (.invokestatic 95, 3) := by decide +kernel
theorem dX9_orderOf_11 : decode cX9_orderOf 11 = .ok (.ifCond .eq 12, 3) := by decide +kernel
theorem dX9_orderOf_14 : decode cX9_orderOf 14 = .ok (.aload_n 0, 1) := by decide +kernel
theorem dX9_orderOf_15 : decode cX9_orderOf 15 = .ok (.getfield 37, 3) := by decide +kernel
theorem dX9_orderOf_18 : decode cX9_orderOf 18 = .ok (.iload_n 1, 1) := by decide +kernel
theorem dX9_orderOf_19 : decode cX9_orderOf 19 = .ok (.aaload, 1) := by decide +kernel
theorem dX9_orderOf_20 : decode cX9_orderOf 20 = .ok (.goto 4, 3) := by decide +kernel
theorem dX9_orderOf_23 : decode cX9_orderOf 23 = .ok (.aconst_null, 1) := by decide +kernel
theorem dX9_orderOf_24 : decode cX9_orderOf 24 = .ok (.areturn, 1) := by decide +kernel
theorem dX9_hasBit_0 : decode cX9_hasBit 0 = .ok (.iload_n 0, 1) := by decide +kernel
theorem dX9_hasBit_1 : decode cX9_hasBit 1 = .ok (.iload_n 1, 1) := by decide +kernel
theorem dX9_hasBit_2 : decode cX9_hasBit 2 = .ok (.ishr, 1) := by decide +kernel
theorem dX9_hasBit_3 : decode cX9_hasBit 3 = .ok (.iconst 1, 1) := by decide +kernel
theorem dX9_hasBit_4 : decode cX9_hasBit 4 = .ok (.iand, 1) := by decide +kernel
theorem dX9_hasBit_5 : decode cX9_hasBit 5 = .ok (.iconst 1, 1) := by decide +kernel
theorem dX9_hasBit_6 : decode cX9_hasBit 6 = .ok (.if_icmp .ne 7, 3) := by decide +kernel
theorem dX9_hasBit_9 : decode cX9_hasBit 9 = .ok (.iconst 1, 1) := by decide +kernel
theorem dX9_hasBit_10 : decode cX9_hasBit 10 = .ok (.goto 4, 3) := by decide +kernel
theorem dX9_hasBit_13 : decode cX9_hasBit 13 = .ok (.iconst 0, 1) := by decide +kernel
theorem dX9_hasBit_14 : decode cX9_hasBit 14 = .ok (.ireturn, 1) := by decide +kernel
theorem dX8_signAt_0 : decode cX8_signAt 0 = .ok (.iload_n 1, 1) := by decide +kernel
theorem dX8_signAt_1 : decode cX8_signAt 1 = .ok (.ifCond .lt 20, 3) := by decide +kernel
theorem dX8_signAt_4 : decode cX8_signAt 4 = .ok (.iload_n 1, 1) := by decide +kernel
theorem dX8_signAt_5 : decode cX8_signAt 5 = .ok (.aload_n 0, 1) := by decide +kernel
theorem dX8_signAt_6 : decode cX8_signAt 6 = .ok (.getfield 15, 3) := by decide +kernel
theorem dX8_signAt_9 : decode cX8_signAt 9 = .ok (.if_icmp .ge 12, 3) := by decide +kernel
theorem dX8_signAt_12 : decode cX8_signAt 12 = .ok (.aload_n 0, 1) := by decide +kernel
theorem dX8_signAt_13 : decode cX8_signAt 13 = .ok (.getfield 11, 3) := by decide +kernel
theorem dX8_signAt_16 : decode cX8_signAt 16 = .ok (.iload_n 1, 1) := by decide +kernel
theorem dX8_signAt_17 : decode cX8_signAt 17 = .ok (.iaload, 1) := by decide +kernel
theorem dX8_signAt_18 : decode cX8_signAt 18 = .ok (.goto 4, 3) := by decide +kernel
theorem dX8_signAt_21 : decode cX8_signAt 21 = .ok (.iconst 0, 1) := by decide +kernel
theorem dX8_signAt_22 : decode cX8_signAt 22 = .ok (.ireturn, 1) := by decide +kernel
theorem dX8_digitAt_0 : decode cX8_digitAt 0 = .ok (.iload_n 1, 1) := by decide +kernel
theorem dX8_digitAt_1 : decode cX8_digitAt 1 = .ok (.ifCond .lt 37, 3) := by decide +kernel
theorem dX8_digitAt_4 : decode cX8_digitAt 4 = .ok (.iload_n 1, 1) := by decide +kernel
theorem dX8_digitAt_5 : decode cX8_digitAt 5 = .ok (.aload_n 0, 1) := by decide +kernel
theorem dX8_digitAt_6 : decode cX8_digitAt 6 = .ok (.getfield 15, 3) := by decide +kernel
theorem dX8_digitAt_9 : decode cX8_digitAt 9 = .ok (.if_icmp .ge 29, 3) := by decide +kernel
theorem dX8_digitAt_12 : decode cX8_digitAt 12 = .ok (.aload_n 0, 1) := by decide +kernel
theorem dX8_digitAt_13 : decode cX8_digitAt 13 = .ok (.getfield 11, 3) := by decide +kernel
theorem dX8_digitAt_16 : decode cX8_digitAt 16 = .ok (.iload_n 1, 1) := by decide +kernel
theorem dX8_digitAt_17 : decode cX8_digitAt 17 = .ok (.iaload, 1) := by decide +kernel
theorem dX8_digitAt_18 : decode cX8_digitAt 18 = .ok (.bipush 48, 2) := by decide +kernel
theorem dX8_digitAt_20 : decode cX8_digitAt 20 = .ok (.if_icmp .lt 18, 3) := by decide +kernel
theorem dX8_digitAt_23 : decode cX8_digitAt 23 = .ok (.aload_n 0, 1) := by decide +kernel
theorem dX8_digitAt_24 : decode cX8_digitAt 24 = .ok (.getfield 11, 3) := by decide +kernel
theorem dX8_digitAt_27 : decode cX8_digitAt 27 = .ok (.iload_n 1, 1) := by decide +kernel
theorem dX8_digitAt_28 : decode cX8_digitAt 28 = .ok (.iaload, 1) := by decide +kernel
theorem dX8_digitAt_29 : decode cX8_digitAt 29 = .ok (.bipush 57, 2) := by decide +kernel
theorem dX8_digitAt_31 : decode cX8_digitAt 31 = .ok (.if_icmp .gt 7, 3) := by decide +kernel
theorem dX8_digitAt_34 : decode cX8_digitAt 34 = .ok (.iconst 1, 1) := by decide +kernel
theorem dX8_digitAt_35 : decode cX8_digitAt 35 = .ok (.goto 4, 3) := by decide +kernel
theorem dX8_digitAt_38 : decode cX8_digitAt 38 = .ok (.iconst 0, 1) := by decide +kernel
theorem dX8_digitAt_39 : decode cX8_digitAt 39 = .ok (.istore_n 2, 1) := by decide +kernel
theorem dX8_digitAt_40 : decode cX8_digitAt 40 = .ok (.iload_n 2, 1) := by decide +kernel
theorem dX8_digitAt_41 : decode cX8_digitAt 41 = .ok (.ifCond .eq 15, 3) := by decide +kernel
theorem dX8_digitAt_44 : decode cX8_digitAt 44 = .ok (.aload_n 0, 1) := by decide +kernel
theorem dX8_digitAt_45 : decode cX8_digitAt 45 = .ok (.getfield 11, 3) := by decide +kernel
theorem dX8_digitAt_48 : decode cX8_digitAt 48 = .ok (.iload_n 1, 1) := by decide +kernel
theorem dX8_digitAt_49 : decode cX8_digitAt 49 = .ok (.iaload, 1) := by decide +kernel
theorem dX8_digitAt_50 : decode cX8_digitAt 50 = .ok (.bipush 48, 2) := by decide +kernel
theorem dX8_digitAt_52 : decode cX8_digitAt 52 = .ok (.isub, 1) := by decide +kernel
theorem dX8_digitAt_53 : decode cX8_digitAt 53 = .ok (.goto 4, 3) := by decide +kernel
theorem dX8_digitAt_56 : decode cX8_digitAt 56 = .ok (.iconst (-1), 1) := by decide +kernel
theorem dX8_digitAt_57 : decode cX8_digitAt 57 = .ok (.ireturn, 1) := by decide +kernel
theorem dX8_startsItem_0 : decode cX8_startsItem 0 = .ok (.aload_n 0, 1) := by decide +kernel
theorem dX8_startsItem_1 : decode cX8_startsItem 1 = .ok (.iload_n 1, 1) := by decide +kernel
theorem dX8_startsItem_2 : decode cX8_startsItem 2 = .ok (.iconst 1, 1) := by decide +kernel
theorem dX8_startsItem_3 : decode cX8_startsItem 3 = .ok (.isub, 1) := by decide +kernel
theorem dX8_startsItem_4 : decode cX8_startsItem 4 = .ok (.invokevirtual 42, 3) := by decide +kernel
theorem dX8_startsItem_7 : decode cX8_startsItem 7 = .ok (.istore_n 2, 1) := by decide +kernel
theorem dX8_startsItem_8 : decode cX8_startsItem 8 = .ok (.aload_n 0, 1) := by decide +kernel
theorem dX8_startsItem_9 : decode cX8_startsItem 9 = .ok (.iload_n 1, 1) := by decide +kernel
theorem dX8_startsItem_10 : decode cX8_startsItem 10 = .ok (.iconst 1, 1) := by decide +kernel
theorem dX8_startsItem_11 : decode cX8_startsItem 11 = .ok (.isub, 1) := by decide +kernel
theorem dX8_startsItem_12 : decode cX8_startsItem 12 = .ok (.invokevirtual 46, 3) := by decide +kernel
theorem dX8_startsItem_15 : decode cX8_startsItem 15 = .ok (.ifCond .ge 21, 3) := by decide +kernel
theorem dX8_startsItem_18 : decode cX8_startsItem 18 = .ok (.iload_n 2, 1) := by decide +kernel
theorem dX8_startsItem_19 : decode cX8_startsItem 19 = .ok (.bipush 126, 2) := by decide +kernel
theorem dX8_startsItem_21 : decode cX8_startsItem 21 = .ok (.if_icmp .eq 15, 3) := by decide +kernel
theorem dX8_startsItem_24 : decode cX8_startsItem 24 = .ok (.iload_n 2, 1) := by decide +kernel
theorem dX8_startsItem_25 : decode cX8_startsItem 25 = .ok (.bipush 58, 2) := by decide +kernel
theorem dX8_startsItem_27 : decode cX8_startsItem 27 = .ok (.if_icmp .eq 9, 3) := by decide +kernel
theorem dX8_startsItem_30 : decode cX8_startsItem 30 = .ok (.iload_n 2, 1) := by decide +kernel
theorem dX8_startsItem_31 : decode cX8_startsItem 31 = .ok (.bipush 62, 2) := by decide +kernel
theorem dX8_startsItem_33 : decode cX8_startsItem 33 = .ok (.if_icmp .ne 7, 3) := by decide +kernel
theorem dX8_startsItem_36 : decode cX8_startsItem 36 = .ok (.iconst 1, 1) := by decide +kernel
theorem dX8_startsItem_37 : decode cX8_startsItem 37 = .ok (.goto 4, 3) := by decide +kernel
theorem dX8_startsItem_40 : decode cX8_startsItem 40 = .ok (.iconst 0, 1) := by decide +kernel
theorem dX8_startsItem_41 : decode cX8_startsItem 41 = .ok (.istore_n 3, 1) := by decide +kernel
theorem dX8_startsItem_42 : decode cX8_startsItem 42 = .ok (.aload_n 0, 1) := by decide +kernel
theorem dX8_startsItem_43 : decode cX8_startsItem 43 = .ok (.iload_n 1, 1) := by decide +kernel
theorem dX8_startsItem_44 : decode cX8_startsItem 44 = .ok (.invokevirtual 46, 3) := by decide +kernel
theorem dX8_startsItem_47 : decode cX8_startsItem 47 = .ok (.ifCond .lt 11, 3) := by decide +kernel
theorem dX8_startsItem_50 : decode cX8_startsItem 50 = .ok (.iload_n 3, 1) := by decide +kernel
theorem dX8_startsItem_51 : decode cX8_startsItem 51 = .ok (.ifCond .ne 7, 3) := by decide +kernel
theorem dX8_startsItem_54 : decode cX8_startsItem 54 = .ok (.iconst 1, 1) := by decide +kernel
theorem dX8_startsItem_55 : decode cX8_startsItem 55 = .ok (.goto 4, 3) := by decide +kernel
theorem dX8_startsItem_58 : decode cX8_startsItem 58 = .ok (.iconst 0, 1) := by decide +kernel
theorem dX8_startsItem_59 : decode cX8_startsItem 59 = .ok (.ireturn, 1) := by decide +kernel
theorem dX8_wordAt_0 : decode cX8_wordAt 0 = .ok (.aload_n 0, 1) := by decide +kernel
theorem dX8_wordAt_1 : decode cX8_wordAt 1 = .ok (.iload_n 1, 1) := by decide +kernel
theorem dX8_wordAt_2 : decode cX8_wordAt 2 = .ok (.invokevirtual 46, 3) := by decide +kernel
theorem dX8_wordAt_5 : decode cX8_wordAt 5 = .ok (.istore_n 2, 1) := by decide +kernel
theorem dX8_wordAt_6 : decode cX8_wordAt 6 = .ok (.aload_n 0, 1) := by decide +kernel
theorem dX8_wordAt_7 : decode cX8_wordAt 7 = .ok (.iload_n 1, 1) := by decide +kernel
theorem dX8_wordAt_8 : decode cX8_wordAt 8 = .ok (.iconst 1, 1) := by decide +kernel
theorem dX8_wordAt_9 : decode cX8_wordAt 9 = .ok (.iadd, 1) := by decide +kernel
theorem dX8_wordAt_10 : decode cX8_wordAt 10 = .ok (.invokevirtual 46, 3) := by decide +kernel
theorem dX8_wordAt_13 : decode cX8_wordAt 13 = .ok (.istore_n 3, 1) := by decide +kernel
theorem dX8_wordAt_14 : decode cX8_wordAt 14 = .ok (.iload_n 3, 1) := by decide +kernel
theorem dX8_wordAt_15 : decode cX8_wordAt 15 = .ok (.ifCond .ge 7, 3) := by decide +kernel
theorem dX8_wordAt_18 : decode cX8_wordAt 18 = .ok (.iload_n 2, 1) := by decide +kernel
theorem dX8_wordAt_19 : decode cX8_wordAt 19 = .ok (.goto 9, 3) := by decide +kernel
theorem dX8_wordAt_22 : decode cX8_wordAt 22 = .ok (.bipush 10, 2) := by decide +kernel
theorem dX8_wordAt_24 : decode cX8_wordAt 24 = .ok (.iload_n 2, 1) := by decide +kernel
theorem dX8_wordAt_25 : decode cX8_wordAt 25 = .ok (.imul, 1) := by decide +kernel
theorem dX8_wordAt_26 : decode cX8_wordAt 26 = .ok (.iload_n 3, 1) := by decide +kernel
theorem dX8_wordAt_27 : decode cX8_wordAt 27 = .ok (.iadd, 1) := by decide +kernel
theorem dX8_wordAt_28 : decode cX8_wordAt 28 = .ok (.ireturn, 1) := by decide +kernel
theorem dX6_hasNear_0 : decode cX6_hasNear 0 = .ok (.iconst 0, 1) := by decide +kernel
theorem dX6_hasNear_1 : decode cX6_hasNear 1 = .ok (.istore 4, 2) := by decide +kernel
theorem dX6_hasNear_3 : decode cX6_hasNear 3 = .ok (.iload 4, 2) := by decide +kernel
theorem dX6_hasNear_5 : decode cX6_hasNear 5 = .ok (.aload_n 0, 1) := by decide +kernel
theorem dX6_hasNear_6 : decode cX6_hasNear 6 = .ok (.getfield 15, 3) := by decide +kernel
theorem dX6_hasNear_9 : decode cX6_hasNear 9 = .ok (.if_icmp .ge 85, 3) := by decide +kernel
theorem dX6_hasNear_12 : decode cX6_hasNear 12 = .ok (.iload 4, 2) := by decide +kernel
theorem dX6_hasNear_14 : decode cX6_hasNear 14 = .ok (.iconst 1, 1) := by decide +kernel
theorem dX6_hasNear_15 : decode cX6_hasNear 15 = .ok (.iadd, 1) := by decide +kernel
theorem dX6_hasNear_16 : decode cX6_hasNear 16 = .ok (.istore 5, 2) := by decide +kernel
theorem dX6_hasNear_18 : decode cX6_hasNear 18 = .ok (.iload 5, 2) := by decide +kernel
theorem dX6_hasNear_20 : decode cX6_hasNear 20 = .ok (.aload_n 0, 1) := by decide +kernel
theorem dX6_hasNear_21 : decode cX6_hasNear 21 = .ok (.getfield 15, 3) := by decide +kernel
theorem dX6_hasNear_24 : decode cX6_hasNear 24 = .ok (.if_icmp .ge 64, 3) := by decide +kernel
theorem dX6_hasNear_27 : decode cX6_hasNear 27 = .ok (.iload 5, 2) := by decide +kernel
theorem dX6_hasNear_29 : decode cX6_hasNear 29 = .ok (.iload 4, 2) := by decide +kernel
theorem dX6_hasNear_31 : decode cX6_hasNear 31 = .ok (.iload_n 3, 1) := by decide +kernel
theorem dX6_hasNear_32 : decode cX6_hasNear 32 = .ok (.iadd, 1) := by decide +kernel
theorem dX6_hasNear_33 : decode cX6_hasNear 33 = .ok (.if_icmp .gt 55, 3) := by decide +kernel
theorem dX6_hasNear_36 : decode cX6_hasNear 36 = .ok (.aload_n 0, 1) := by decide +kernel
theorem dX6_hasNear_37 : decode cX6_hasNear 37 = .ok (.getfield 9, 3) := by decide +kernel
theorem dX6_hasNear_40 : decode cX6_hasNear 40 = .ok (.iload 4, 2) := by decide +kernel
theorem dX6_hasNear_42 : decode cX6_hasNear 42 = .ok (.iaload, 1) := by decide +kernel
theorem dX6_hasNear_43 : decode cX6_hasNear 43 = .ok (.iload_n 1, 1) := by decide +kernel
theorem dX6_hasNear_44 : decode cX6_hasNear 44 = .ok (.if_icmp .ne 14, 3) := by decide +kernel
theorem dX6_hasNear_47 : decode cX6_hasNear 47 = .ok (.aload_n 0, 1) := by decide +kernel
theorem dX6_hasNear_48 : decode cX6_hasNear 48 = .ok (.getfield 9, 3) := by decide +kernel
theorem dX6_hasNear_51 : decode cX6_hasNear 51 = .ok (.iload 5, 2) := by decide +kernel
theorem dX6_hasNear_53 : decode cX6_hasNear 53 = .ok (.iaload, 1) := by decide +kernel
theorem dX6_hasNear_54 : decode cX6_hasNear 54 = .ok (.iload_n 2, 1) := by decide +kernel
theorem dX6_hasNear_55 : decode cX6_hasNear 55 = .ok (.if_icmp .eq 25, 3) := by decide +kernel
theorem dX6_hasNear_58 : decode cX6_hasNear 58 = .ok (.aload_n 0, 1) := by decide +kernel
theorem dX6_hasNear_59 : decode cX6_hasNear 59 = .ok (.getfield 9, 3) := by decide +kernel
theorem dX6_hasNear_62 : decode cX6_hasNear 62 = .ok (.iload 4, 2) := by decide +kernel
theorem dX6_hasNear_64 : decode cX6_hasNear 64 = .ok (.iaload, 1) := by decide +kernel
theorem dX6_hasNear_65 : decode cX6_hasNear 65 = .ok (.iload_n 2, 1) := by decide +kernel
theorem dX6_hasNear_66 : decode cX6_hasNear 66 = .ok (.if_icmp .ne 16, 3) := by decide +kernel
theorem dX6_hasNear_69 : decode cX6_hasNear 69 = .ok (.aload_n 0, 1) := by decide +kernel
theorem dX6_hasNear_70 : decode cX6_hasNear 70 = .ok (.getfield 9, 3) := by decide +kernel
theorem dX6_hasNear_73 : decode cX6_hasNear 73 = .ok (.iload 5, 2) := by decide +kernel
theorem dX6_hasNear_75 : decode cX6_hasNear 75 = .ok (.iaload, 1) := by decide +kernel
theorem dX6_hasNear_76 : decode cX6_hasNear 76 = .ok (.iload_n 1, 1) := by decide +kernel
theorem dX6_hasNear_77 : decode cX6_hasNear 77 = .ok (.if_icmp .ne 5, 3) := by decide +kernel
theorem dX6_hasNear_80 : decode cX6_hasNear 80 = .ok (.iconst 1, 1) := by decide +kernel
theorem dX6_hasNear_81 : decode cX6_hasNear 81 = .ok (.ireturn, 1) := by decide +kernel
theorem dX6_hasNear_82 : decode cX6_hasNear 82 = .ok (.iinc 5 1, 3) := by decide +kernel
theorem dX6_hasNear_85 : decode cX6_hasNear 85 = .ok (.goto (-67), 3) := by decide +kernel
theorem dX6_hasNear_88 : decode cX6_hasNear 88 = .ok (.iinc 4 1, 3) := by decide +kernel
theorem dX6_hasNear_91 : decode cX6_hasNear 91 = .ok (.goto (-88), 3) := by decide +kernel
theorem dX6_hasNear_94 : decode cX6_hasNear 94 = .ok (.iconst 0, 1) := by decide +kernel
theorem dX6_hasNear_95 : decode cX6_hasNear 95 = .ok (.ireturn, 1) := by decide +kernel
theorem dX6_howOften_0 : decode cX6_howOften 0 = .ok (.iconst 0, 1) := by decide +kernel
theorem dX6_howOften_1 : decode cX6_howOften 1 = .ok (.istore_n 2, 1) := by decide +kernel
theorem dX6_howOften_2 : decode cX6_howOften 2 = .ok (.iconst 0, 1) := by decide +kernel
theorem dX6_howOften_3 : decode cX6_howOften 3 = .ok (.istore_n 3, 1) := by decide +kernel
theorem dX6_howOften_4 : decode cX6_howOften 4 = .ok (.iload_n 3, 1) := by decide +kernel
theorem dX6_howOften_5 : decode cX6_howOften 5 = .ok (.aload_n 0, 1) := by decide +kernel
theorem dX6_howOften_6 : decode cX6_howOften 6 = .ok (.getfield 15, 3) := by decide +kernel
theorem dX6_howOften_9 : decode cX6_howOften 9 = .ok (.if_icmp .ge 22, 3) := by decide +kernel
theorem dX6_howOften_12 : decode cX6_howOften 12 = .ok (.aload_n 0, 1) := by decide +kernel
theorem dX6_howOften_13 : decode cX6_howOften 13 = .ok (.getfield 9, 3) := by decide +kernel
theorem dX6_howOften_16 : decode cX6_howOften 16 = .ok (.iload_n 3, 1) := by decide +kernel
theorem dX6_howOften_17 : decode cX6_howOften 17 = .ok (.iaload, 1) := by decide +kernel
theorem dX6_howOften_18 : decode cX6_howOften 18 = .ok (.iload_n 1, 1) := by decide +kernel
theorem dX6_howOften_19 : decode cX6_howOften 19 = .ok (.if_icmp .ne 6, 3) := by decide +kernel
theorem dX6_howOften_22 : decode cX6_howOften 22 = .ok (.iinc 2 1, 3) := by decide +kernel
theorem dX6_howOften_25 : decode cX6_howOften 25 = .ok (.iinc 3 1, 3) := by decide +kernel
theorem dX6_howOften_28 : decode cX6_howOften 28 = .ok (.goto (-24), 3) := by decide +kernel
theorem dX6_howOften_31 : decode cX6_howOften 31 = .ok (.iload_n 2, 1) := by decide +kernel
theorem dX6_howOften_32 : decode cX6_howOften 32 = .ok (.ireturn, 1) := by decide +kernel
theorem dX8_itemIsSo_0 : decode cX8_itemIsSo 0 = .ok (.aload_n 0, 1) := by decide +kernel
theorem dX8_itemIsSo_1 : decode cX8_itemIsSo 1 = .ok (.iload_n 2, 1) := by decide +kernel
theorem dX8_itemIsSo_2 : decode cX8_itemIsSo 2 = .ok (.invokevirtual 49, 3) := by decide +kernel
theorem dX8_itemIsSo_5 : decode cX8_itemIsSo 5 = .ok (.istore_n 3, 1) := by decide +kernel
theorem dX8_itemIsSo_6 : decode cX8_itemIsSo 6 = .ok (.aload_n 0, 1) := by decide +kernel
theorem dX8_itemIsSo_7 : decode cX8_itemIsSo 7 = .ok (.iload_n 2, 1) := by decide +kernel
theorem dX8_itemIsSo_8 : decode cX8_itemIsSo 8 = .ok (.iconst 1, 1) := by decide +kernel
theorem dX8_itemIsSo_9 : decode cX8_itemIsSo 9 = .ok (.iadd, 1) := by decide +kernel
theorem dX8_itemIsSo_10 : decode cX8_itemIsSo 10 = .ok (.invokevirtual 46, 3) := by decide +kernel
theorem dX8_itemIsSo_13 : decode cX8_itemIsSo 13 = .ok (.ifCond .ge 9, 3) := by decide +kernel
theorem dX8_itemIsSo_16 : decode cX8_itemIsSo 16 = .ok (.iload_n 2, 1) := by decide +kernel
theorem dX8_itemIsSo_17 : decode cX8_itemIsSo 17 = .ok (.iconst 1, 1) := by decide +kernel
theorem dX8_itemIsSo_18 : decode cX8_itemIsSo 18 = .ok (.iadd, 1) := by decide +kernel
theorem dX8_itemIsSo_19 : decode cX8_itemIsSo 19 = .ok (.goto 6, 3) := by decide +kernel
theorem dX8_itemIsSo_22 : decode cX8_itemIsSo 22 = .ok (.iload_n 2, 1) := by decide +kernel
theorem dX8_itemIsSo_23 : decode cX8_itemIsSo 23 = .ok (.iconst 2, 1) := by decide +kernel
theorem dX8_itemIsSo_24 : decode cX8_itemIsSo 24 = .ok (.iadd, 1) := by decide +kernel
theorem dX8_itemIsSo_25 : decode cX8_itemIsSo 25 = .ok (.istore 4, 2) := by decide +kernel
theorem dX8_itemIsSo_27 : decode cX8_itemIsSo 27 = .ok (.aload_n 0, 1) := by decide +kernel
theorem dX8_itemIsSo_28 : decode cX8_itemIsSo 28 = .ok (.iload 4, 2) := by decide +kernel
theorem dX8_itemIsSo_30 : decode cX8_itemIsSo 30 = .ok (.invokevirtual 42, 3) := by decide +kernel
theorem dX8_itemIsSo_33 : decode cX8_itemIsSo 33 = .ok (.bipush 126, 2) := by decide +kernel
theorem dX8_itemIsSo_35 : decode cX8_itemIsSo 35 = .ok (.if_icmp .ne 25, 3) := by decide +kernel
theorem dX8_itemIsSo_38 : decode cX8_itemIsSo 38 = .ok (.aload_n 1, 1) := by decide +kernel
theorem dX8_itemIsSo_39 : decode cX8_itemIsSo 39 = .ok (.iload_n 3, 1) := by decide +kernel
theorem dX8_itemIsSo_40 : decode cX8_itemIsSo 40 = .ok (.aload_n 0, 1) := by decide +kernel
theorem dX8_itemIsSo_41 : decode cX8_itemIsSo 41 = .ok (.iload 4, 2) := by decide +kernel
theorem dX8_itemIsSo_43 : decode cX8_itemIsSo 43 = .ok (.iconst 3, 1) := by decide +kernel
theorem dX8_itemIsSo_44 : decode cX8_itemIsSo 44 = .ok (.iadd, 1) := by decide +kernel
theorem dX8_itemIsSo_45 : decode cX8_itemIsSo 45 = .ok (.invokevirtual 49, 3) := by decide +kernel
theorem dX8_itemIsSo_48 : decode cX8_itemIsSo 48 = .ok (.aload_n 0, 1) := by decide +kernel
theorem dX8_itemIsSo_49 : decode cX8_itemIsSo 49 = .ok (.iload 4, 2) := by decide +kernel
theorem dX8_itemIsSo_51 : decode cX8_itemIsSo 51 = .ok (.iconst 1, 1) := by decide +kernel
theorem dX8_itemIsSo_52 : decode cX8_itemIsSo 52 = .ok (.iadd, 1) := by decide +kernel
theorem dX8_itemIsSo_53 : decode cX8_itemIsSo 53 = .ok (.invokevirtual 46, 3) := by decide +kernel
theorem dX8_itemIsSo_56 : decode cX8_itemIsSo 56 = .ok (.invokevirtual 52, 3) := by decide +kernel
theorem dX8_itemIsSo_59 : decode cX8_itemIsSo 59 = .ok (.ireturn, 1) := by decide +kernel
theorem dX8_itemIsSo_60 : decode cX8_itemIsSo 60 = .ok (.aload_n 0, 1) := by decide +kernel
theorem dX8_itemIsSo_61 : decode cX8_itemIsSo 61 = .ok (.iload 4, 2) := by decide +kernel
theorem dX8_itemIsSo_63 : decode cX8_itemIsSo 63 = .ok (.invokevirtual 42, 3) := by decide +kernel
theorem dX8_itemIsSo_66 : decode cX8_itemIsSo 66 = .ok (.bipush 62, 2) := by decide +kernel
theorem dX8_itemIsSo_68 : decode cX8_itemIsSo 68 = .ok (.if_icmp .ne 25, 3) := by decide +kernel
theorem dX8_itemIsSo_71 : decode cX8_itemIsSo 71 = .ok (.aload_n 1, 1) := by decide +kernel
theorem dX8_itemIsSo_72 : decode cX8_itemIsSo 72 = .ok (.iload_n 3, 1) := by decide +kernel
theorem dX8_itemIsSo_73 : decode cX8_itemIsSo 73 = .ok (.invokevirtual 58, 3) := by decide +kernel
theorem dX8_itemIsSo_76 : decode cX8_itemIsSo 76 = .ok (.aload_n 0, 1) := by decide +kernel
theorem dX8_itemIsSo_77 : decode cX8_itemIsSo 77 = .ok (.iload 4, 2) := by decide +kernel
theorem dX8_itemIsSo_79 : decode cX8_itemIsSo 79 = .ok (.iconst 1, 1) := by decide +kernel
theorem dX8_itemIsSo_80 : decode cX8_itemIsSo 80 = .ok (.iadd, 1) := by decide +kernel
theorem dX8_itemIsSo_81 : decode cX8_itemIsSo 81 = .ok (.invokevirtual 46, 3) := by decide +kernel
theorem dX8_itemIsSo_84 : decode cX8_itemIsSo 84 = .ok (.if_icmp .le 7, 3) := by decide +kernel
theorem dX8_itemIsSo_87 : decode cX8_itemIsSo 87 = .ok (.iconst 1, 1) := by decide +kernel
theorem dX8_itemIsSo_88 : decode cX8_itemIsSo 88 = .ok (.goto 4, 3) := by decide +kernel
theorem dX8_itemIsSo_91 : decode cX8_itemIsSo 91 = .ok (.iconst 0, 1) := by decide +kernel
theorem dX8_itemIsSo_92 : decode cX8_itemIsSo 92 = .ok (.ireturn, 1) := by decide +kernel
theorem dX8_itemIsSo_93 : decode cX8_itemIsSo 93 = .ok (.aload_n 1, 1) := by decide +kernel
theorem dX8_itemIsSo_94 : decode cX8_itemIsSo 94 = .ok (.iload_n 3, 1) := by decide +kernel
theorem dX8_itemIsSo_95 : decode cX8_itemIsSo 95 = .ok (.invokevirtual 58, 3) := by decide +kernel
theorem dX8_itemIsSo_98 : decode cX8_itemIsSo 98 = .ok (.ifCond .le 7, 3) := by decide +kernel
theorem dX8_itemIsSo_101 : decode cX8_itemIsSo 101 = .ok (.iconst 1, 1) := by decide +kernel
theorem dX8_itemIsSo_102 : decode cX8_itemIsSo 102 = .ok (.goto 4, 3) := by decide +kernel
theorem dX8_itemIsSo_105 : decode cX8_itemIsSo 105 = .ok (.iconst 0, 1) := by decide +kernel
theorem dX8_itemIsSo_106 : decode cX8_itemIsSo 106 = .ok (.ireturn, 1) := by decide +kernel
theorem dX8_isSo_0 : decode cX8_isSo 0 = .ok (.iconst 0, 1) := by decide +kernel
theorem dX8_isSo_1 : decode cX8_isSo 1 = .ok (.istore_n 2, 1) := by decide +kernel
theorem dX8_isSo_2 : decode cX8_isSo 2 = .ok (.iconst 1, 1) := by decide +kernel
theorem dX8_isSo_3 : decode cX8_isSo 3 = .ok (.istore_n 3, 1) := by decide +kernel
theorem dX8_isSo_4 : decode cX8_isSo 4 = .ok (.iconst 0, 1) := by decide +kernel
theorem dX8_isSo_5 : decode cX8_isSo 5 = .ok (.istore 4, 2) := by decide +kernel
theorem dX8_isSo_7 : decode cX8_isSo 7 = .ok (.iconst 0, 1) := by decide +kernel
theorem dX8_isSo_8 : decode cX8_isSo 8 = .ok (.istore 5, 2) := by decide +kernel
theorem dX8_isSo_10 : decode cX8_isSo 10 = .ok (.iconst 0, 1) := by decide +kernel
theorem dX8_isSo_11 : decode cX8_isSo 11 = .ok (.istore 6, 2) := by decide +kernel
theorem dX8_isSo_13 : decode cX8_isSo 13 = .ok (.iload 6, 2) := by decide +kernel
theorem dX8_isSo_15 : decode cX8_isSo 15 = .ok (.aload_n 0, 1) := by decide +kernel
theorem dX8_isSo_16 : decode cX8_isSo 16 = .ok (.getfield 15, 3) := by decide +kernel
theorem dX8_isSo_19 : decode cX8_isSo 19 = .ok (.if_icmp .ge 184, 3) := by decide +kernel
theorem dX8_isSo_22 : decode cX8_isSo 22 = .ok (.aload_n 0, 1) := by decide +kernel
theorem dX8_isSo_23 : decode cX8_isSo 23 = .ok (.getfield 11, 3) := by decide +kernel
theorem dX8_isSo_26 : decode cX8_isSo 26 = .ok (.iload 6, 2) := by decide +kernel
theorem dX8_isSo_28 : decode cX8_isSo 28 = .ok (.iaload, 1) := by decide +kernel
theorem dX8_isSo_29 : decode cX8_isSo 29 = .ok (.istore 7, 2) := by decide +kernel
theorem dX8_isSo_31 : decode cX8_isSo 31 = .ok (.iload 7, 2) := by decide +kernel
theorem dX8_isSo_33 : decode cX8_isSo 33 = .ok (.bipush 40, 2) := by decide +kernel
theorem dX8_isSo_35 : decode cX8_isSo 35 = .ok (.if_icmp .ne 25, 3) := by decide +kernel
theorem dX8_isSo_38 : decode cX8_isSo 38 = .ok (.iinc 5 1, 3) := by decide +kernel
theorem dX8_isSo_41 : decode cX8_isSo 41 = .ok (.iload_n 2, 1) := by decide +kernel
theorem dX8_isSo_42 : decode cX8_isSo 42 = .ok (.iconst 1, 1) := by decide +kernel
theorem dX8_isSo_43 : decode cX8_isSo 43 = .ok (.iload 5, 2) := by decide +kernel
theorem dX8_isSo_45 : decode cX8_isSo 45 = .ok (.ishl, 1) := by decide +kernel
theorem dX8_isSo_46 : decode cX8_isSo 46 = .ok (.iconst (-1), 1) := by decide +kernel
theorem dX8_isSo_47 : decode cX8_isSo 47 = .ok (.ixor, 1) := by decide +kernel
theorem dX8_isSo_48 : decode cX8_isSo 48 = .ok (.iand, 1) := by decide +kernel
theorem dX8_isSo_49 : decode cX8_isSo 49 = .ok (.istore_n 2, 1) := by decide +kernel
theorem dX8_isSo_50 : decode cX8_isSo 50 = .ok (.iload_n 3, 1) := by decide +kernel
theorem dX8_isSo_51 : decode cX8_isSo 51 = .ok (.iconst 1, 1) := by decide +kernel
theorem dX8_isSo_52 : decode cX8_isSo 52 = .ok (.iload 5, 2) := by decide +kernel
theorem dX8_isSo_54 : decode cX8_isSo 54 = .ok (.ishl, 1) := by decide +kernel
theorem dX8_isSo_55 : decode cX8_isSo 55 = .ok (.ior, 1) := by decide +kernel
theorem dX8_isSo_56 : decode cX8_isSo 56 = .ok (.istore_n 3, 1) := by decide +kernel
theorem dX8_isSo_57 : decode cX8_isSo 57 = .ok (.goto 140, 3) := by decide +kernel
theorem dX8_isSo_60 : decode cX8_isSo 60 = .ok (.iload 7, 2) := by decide +kernel
theorem dX8_isSo_62 : decode cX8_isSo 62 = .ok (.bipush 33, 2) := by decide +kernel
theorem dX8_isSo_64 : decode cX8_isSo 64 = .ok (.if_icmp .ne 15, 3) := by decide +kernel
theorem dX8_isSo_67 : decode cX8_isSo 67 = .ok (.iload 4, 2) := by decide +kernel
theorem dX8_isSo_69 : decode cX8_isSo 69 = .ok (.iconst 1, 1) := by decide +kernel
theorem dX8_isSo_70 : decode cX8_isSo 70 = .ok (.iload 5, 2) := by decide +kernel
theorem dX8_isSo_72 : decode cX8_isSo 72 = .ok (.ishl, 1) := by decide +kernel
theorem dX8_isSo_73 : decode cX8_isSo 73 = .ok (.ixor, 1) := by decide +kernel
theorem dX8_isSo_74 : decode cX8_isSo 74 = .ok (.istore 4, 2) := by decide +kernel
theorem dX8_isSo_76 : decode cX8_isSo 76 = .ok (.goto 121, 3) := by decide +kernel
theorem dX8_isSo_79 : decode cX8_isSo 79 = .ok (.iload 7, 2) := by decide +kernel
theorem dX8_isSo_81 : decode cX8_isSo 81 = .ok (.bipush 124, 2) := by decide +kernel
theorem dX8_isSo_83 : decode cX8_isSo 83 = .ok (.if_icmp .ne 22, 3) := by decide +kernel
theorem dX8_isSo_86 : decode cX8_isSo 86 = .ok (.iload_n 2, 1) := by decide +kernel
theorem dX8_isSo_87 : decode cX8_isSo 87 = .ok (.iload_n 3, 1) := by decide +kernel
theorem dX8_isSo_88 : decode cX8_isSo 88 = .ok (.iconst 1, 1) := by decide +kernel
theorem dX8_isSo_89 : decode cX8_isSo 89 = .ok (.iload 5, 2) := by decide +kernel
theorem dX8_isSo_91 : decode cX8_isSo 91 = .ok (.ishl, 1) := by decide +kernel
theorem dX8_isSo_92 : decode cX8_isSo 92 = .ok (.iand, 1) := by decide +kernel
theorem dX8_isSo_93 : decode cX8_isSo 93 = .ok (.ior, 1) := by decide +kernel
theorem dX8_isSo_94 : decode cX8_isSo 94 = .ok (.istore_n 2, 1) := by decide +kernel
theorem dX8_isSo_95 : decode cX8_isSo 95 = .ok (.iload_n 3, 1) := by decide +kernel
theorem dX8_isSo_96 : decode cX8_isSo 96 = .ok (.iconst 1, 1) := by decide +kernel
theorem dX8_isSo_97 : decode cX8_isSo 97 = .ok (.iload 5, 2) := by decide +kernel
theorem dX8_isSo_99 : decode cX8_isSo 99 = .ok (.ishl, 1) := by decide +kernel
theorem dX8_isSo_100 : decode cX8_isSo 100 = .ok (.ior, 1) := by decide +kernel
theorem dX8_isSo_101 : decode cX8_isSo 101 = .ok (.istore_n 3, 1) := by decide +kernel
theorem dX8_isSo_102 : decode cX8_isSo 102 = .ok (.goto 95, 3) := by decide +kernel
theorem dX8_isSo_105 : decode cX8_isSo 105 = .ok (.iload 7, 2) := by decide +kernel
theorem dX8_isSo_107 : decode cX8_isSo 107 = .ok (.bipush 41, 2) := by decide +kernel
theorem dX8_isSo_109 : decode cX8_isSo 109 = .ok (.if_icmp .eq 12, 3) := by decide +kernel
theorem dX8_isSo_112 : decode cX8_isSo 112 = .ok (.aload_n 0, 1) := by decide +kernel
theorem dX8_isSo_113 : decode cX8_isSo 113 = .ok (.iload 6, 2) := by decide +kernel
theorem dX8_isSo_115 : decode cX8_isSo 115 = .ok (.invokevirtual 30, 3) := by decide +kernel
theorem dX8_isSo_118 : decode cX8_isSo 118 = .ok (.ifCond .eq 79, 3) := by decide +kernel
theorem dX8_isSo_121 : decode cX8_isSo 121 = .ok (.iload 7, 2) := by decide +kernel
theorem dX8_isSo_123 : decode cX8_isSo 123 = .ok (.bipush 41, 2) := by decide +kernel
theorem dX8_isSo_125 : decode cX8_isSo 125 = .ok (.if_icmp .ne 14, 3) := by decide +kernel
theorem dX8_isSo_128 : decode cX8_isSo 128 = .ok (.iload_n 2, 1) := by decide +kernel
theorem dX8_isSo_129 : decode cX8_isSo 129 = .ok (.iload_n 3, 1) := by decide +kernel
theorem dX8_isSo_130 : decode cX8_isSo 130 = .ok (.ior, 1) := by decide +kernel
theorem dX8_isSo_131 : decode cX8_isSo 131 = .ok (.iload 5, 2) := by decide +kernel
theorem dX8_isSo_133 : decode cX8_isSo 133 = .ok (.invokestatic 34, 3) := by decide +kernel
theorem dX8_isSo_136 : decode cX8_isSo 136 = .ok (.goto 10, 3) := by decide +kernel
theorem dX8_isSo_139 : decode cX8_isSo 139 = .ok (.aload_n 0, 1) := by decide +kernel
theorem dX8_isSo_140 : decode cX8_isSo 140 = .ok (.aload_n 1, 1) := by decide +kernel
theorem dX8_isSo_141 : decode cX8_isSo 141 = .ok (.iload 6, 2) := by decide +kernel
theorem dX8_isSo_143 : decode cX8_isSo 143 = .ok (.invokevirtual 38, 3) := by decide +kernel
theorem dX8_isSo_146 : decode cX8_isSo 146 = .ok (.istore 8, 2) := by decide +kernel
theorem dX8_isSo_148 : decode cX8_isSo 148 = .ok (.iload 5, 2) := by decide +kernel
theorem dX8_isSo_150 : decode cX8_isSo 150 = .ok (.iload 7, 2) := by decide +kernel
theorem dX8_isSo_152 : decode cX8_isSo 152 = .ok (.bipush 41, 2) := by decide +kernel
theorem dX8_isSo_154 : decode cX8_isSo 154 = .ok (.if_icmp .ne 7, 3) := by decide +kernel
theorem dX8_isSo_157 : decode cX8_isSo 157 = .ok (.iconst 1, 1) := by decide +kernel
theorem dX8_isSo_158 : decode cX8_isSo 158 = .ok (.goto 4, 3) := by decide +kernel
theorem dX8_isSo_161 : decode cX8_isSo 161 = .ok (.iconst 0, 1) := by decide +kernel
theorem dX8_isSo_162 : decode cX8_isSo 162 = .ok (.isub, 1) := by decide +kernel
theorem dX8_isSo_163 : decode cX8_isSo 163 = .ok (.istore 5, 2) := by decide +kernel
theorem dX8_isSo_165 : decode cX8_isSo 165 = .ok (.iload 8, 2) := by decide +kernel
theorem dX8_isSo_167 : decode cX8_isSo 167 = .ok (.iload 4, 2) := by decide +kernel
theorem dX8_isSo_169 : decode cX8_isSo 169 = .ok (.iload 5, 2) := by decide +kernel
theorem dX8_isSo_171 : decode cX8_isSo 171 = .ok (.invokestatic 34, 3) := by decide +kernel
theorem dX8_isSo_174 : decode cX8_isSo 174 = .ok (.if_icmp .ne 12, 3) := by decide +kernel
theorem dX8_isSo_177 : decode cX8_isSo 177 = .ok (.iload_n 3, 1) := by decide +kernel
theorem dX8_isSo_178 : decode cX8_isSo 178 = .ok (.iconst 1, 1) := by decide +kernel
theorem dX8_isSo_179 : decode cX8_isSo 179 = .ok (.iload 5, 2) := by decide +kernel
theorem dX8_isSo_181 : decode cX8_isSo 181 = .ok (.ishl, 1) := by decide +kernel
theorem dX8_isSo_182 : decode cX8_isSo 182 = .ok (.iconst (-1), 1) := by decide +kernel
theorem dX8_isSo_183 : decode cX8_isSo 183 = .ok (.ixor, 1) := by decide +kernel
theorem dX8_isSo_184 : decode cX8_isSo 184 = .ok (.iand, 1) := by decide +kernel
theorem dX8_isSo_185 : decode cX8_isSo 185 = .ok (.istore_n 3, 1) := by decide +kernel
theorem dX8_isSo_186 : decode cX8_isSo 186 = .ok (.iload 4, 2) := by decide +kernel
theorem dX8_isSo_188 : decode cX8_isSo 188 = .ok (.iconst 1, 1) := by decide +kernel
theorem dX8_isSo_189 : decode cX8_isSo 189 = .ok (.iload 5, 2) := by decide +kernel
theorem dX8_isSo_191 : decode cX8_isSo 191 = .ok (.ishl, 1) := by decide +kernel
theorem dX8_isSo_192 : decode cX8_isSo 192 = .ok (.iconst (-1), 1) := by decide +kernel
theorem dX8_isSo_193 : decode cX8_isSo 193 = .ok (.ixor, 1) := by decide +kernel
theorem dX8_isSo_194 : decode cX8_isSo 194 = .ok (.iand, 1) := by decide +kernel
theorem dX8_isSo_195 : decode cX8_isSo 195 = .ok (.istore 4, 2) := by decide +kernel
theorem dX8_isSo_197 : decode cX8_isSo 197 = .ok (.iinc 6 1, 3) := by decide +kernel
theorem dX8_isSo_200 : decode cX8_isSo 200 = .ok (.goto (-187), 3) := by decide +kernel
theorem dX8_isSo_203 : decode cX8_isSo 203 = .ok (.iload_n 2, 1) := by decide +kernel
theorem dX8_isSo_204 : decode cX8_isSo 204 = .ok (.iload_n 3, 1) := by decide +kernel
theorem dX8_isSo_205 : decode cX8_isSo 205 = .ok (.ior, 1) := by decide +kernel
theorem dX8_isSo_206 : decode cX8_isSo 206 = .ok (.iconst 0, 1) := by decide +kernel
theorem dX8_isSo_207 : decode cX8_isSo 207 = .ok (.invokestatic 34, 3) := by decide +kernel
theorem dX8_isSo_210 : decode cX8_isSo 210 = .ok (.ireturn, 1) := by decide +kernel
theorem dX3_asksFor_0 : decode cX3_asksFor 0 = .ok (.aload_n 1, 1) := by decide +kernel
theorem dX3_asksFor_1 : decode cX3_asksFor 1 = .ok (.getfield 33, 3) := by decide +kernel
theorem dX3_asksFor_4 : decode cX3_asksFor 4 = .ok (.astore_n 2, 1) := by decide +kernel
theorem dX3_asksFor_5 : decode cX3_asksFor 5 = .ok (.aload_n 2, 1) := by decide +kernel
theorem dX3_asksFor_6 : decode cX3_asksFor 6 = .ok (.getfield 39, 3) := by decide +kernel
theorem dX3_asksFor_9 : decode cX3_asksFor 9 = .ok (.aload_n 0, 1) := by decide +kernel
theorem dX3_asksFor_10 : decode cX3_asksFor 10 = .ok (.getfield 20, 3) := by decide +kernel
theorem dX3_asksFor_13 : decode cX3_asksFor 13 = .ok (.if_icmp .lt 43, 3) := by decide +kernel
theorem dX3_asksFor_16 : decode cX3_asksFor 16 = .ok (.aload_n 2, 1) := by decide +kernel
theorem dX3_asksFor_17 : decode cX3_asksFor 17 = .ok (.getfield 39, 3) := by decide +kernel
theorem dX3_asksFor_20 : decode cX3_asksFor 20 = .ok (.aload_n 0, 1) := by decide +kernel
theorem dX3_asksFor_21 : decode cX3_asksFor 21 = .ok (.getfield 23, 3) := by decide +kernel
theorem dX3_asksFor_24 : decode cX3_asksFor 24 = .ok (.if_icmp .gt 32, 3) := by decide +kernel
theorem dX3_asksFor_27 : decode cX3_asksFor 27 = .ok (.aload_n 0, 1) := by decide +kernel
theorem dX3_asksFor_28 : decode cX3_asksFor 28 = .ok (.getfield 17, 3) := by decide +kernel
theorem dX3_asksFor_31 : decode cX3_asksFor 31 = .ok (.aload_n 2, 1) := by decide +kernel
theorem dX3_asksFor_32 : decode cX3_asksFor 32 = .ok (.getfield 44, 3) := by decide +kernel
theorem dX3_asksFor_35 : decode cX3_asksFor 35 = .ok (.invokestatic 47, 3) := by decide +kernel
theorem dX3_asksFor_38 : decode cX3_asksFor 38 = .ok (.ifCond .eq 18, 3) := by decide +kernel
theorem dX3_asksFor_41 : decode cX3_asksFor 41 = .ok (.aload_n 0, 1) := by decide +kernel
theorem dX3_asksFor_42 : decode cX3_asksFor 42 = .ok (.getfield 13, 3) := by decide +kernel
theorem dX3_asksFor_45 : decode cX3_asksFor 45 = .ok (.aload_n 1, 1) := by decide +kernel
theorem dX3_asksFor_46 : decode cX3_asksFor 46 = .ok (.invokevirtual 53, 3) := by decide +kernel
theorem dX3_asksFor_49 : decode cX3_asksFor 49 = .ok (.ifCond .eq 7, 3) := by decide +kernel
theorem dX3_asksFor_52 : decode cX3_asksFor 52 = .ok (.iconst 1, 1) := by decide +kernel
theorem dX3_asksFor_53 : decode cX3_asksFor 53 = .ok (.goto 4, 3) := by decide +kernel
theorem dX3_asksFor_56 : decode cX3_asksFor 56 = .ok (.iconst 0, 1) := by decide +kernel
theorem dX3_asksFor_57 : decode cX3_asksFor 57 = .ok (.ireturn, 1) := by decide +kernel
theorem dX9_wants_0 : decode cX9_wants 0 = .ok (.aload_n 0, 1) := by decide +kernel
theorem dX9_wants_1 : decode cX9_wants 1 = .ok (.iload_n 1, 1) := by decide +kernel
theorem dX9_wants_2 : decode cX9_wants 2 = .ok (.invokevirtual 208, 3) := by decide +kernel
theorem dX9_wants_5 : decode cX9_wants 5 = .ok (.astore 4, 2) := by decide +kernel
theorem dX9_wants_7 : decode cX9_wants 7 = .ok (.aload_n 0, 1) := by decide +kernel
theorem dX9_wants_8 : decode cX9_wants 8 = .ok (.iload_n 2, 1) := by decide +kernel
theorem dX9_wants_9 : decode cX9_wants 9 = .ok (.invokevirtual 158, 3) := by decide +kernel
theorem dX9_wants_12 : decode cX9_wants 12 = .ok (.astore 5, 2) := by decide +kernel
theorem dX9_wants_14 : decode cX9_wants 14 = .ok (.aload 4, 2) := by decide +kernel
theorem dX9_wants_16 : decode cX9_wants 16 = .ok (.ifnull 8, 3) := by decide +kernel
theorem dX9_wants_19 : decode cX9_wants 19 = .ok (.aload 5, 2) := by decide +kernel
theorem dX9_wants_21 : decode cX9_wants 21 = .ok (.ifnonnull 5, 3) := by decide +kernel
theorem dX9_wants_24 : decode cX9_wants 24 = .ok (.iconst (-1), 1) := by decide +kernel
theorem dX9_wants_25 : decode cX9_wants 25 = .ok (.ireturn, 1) := by decide +kernel
theorem dX9_wants_26 : decode cX9_wants 26 = .ok (.iload_n 3, 1) := by decide +kernel
theorem dX9_wants_27 : decode cX9_wants 27 = .ok (.lookupswitch 50 #[(0, 25), (1, 36)], 25) := by decide +kernel
theorem dX9_wants_52 : decode cX9_wants 52 = .ok (.aload 4, 2) := by decide +kernel
theorem dX9_wants_54 : decode cX9_wants 54 = .ok (.aload 5, 2) := by decide +kernel
theorem dX9_wants_56 : decode cX9_wants 56 = .ok (.invokevirtual 212, 3) := by decide +kernel
theorem dX9_wants_59 : decode cX9_wants 59 = .ok (.invokestatic 188, 3) := by decide +kernel
theorem dX9_wants_62 : decode cX9_wants 62 = .ok (.ireturn, 1) := by decide +kernel
theorem dX9_wants_63 : decode cX9_wants 63 = .ok (.aload 4, 2) := by decide +kernel
theorem dX9_wants_65 : decode cX9_wants 65 = .ok (.getfield 215, 3) := by decide +kernel
theorem dX9_wants_68 : decode cX9_wants 68 = .ok (.aload 5, 2) := by decide +kernel
theorem dX9_wants_70 : decode cX9_wants 70 = .ok (.invokevirtual 218, 3) := by decide +kernel
theorem dX9_wants_73 : decode cX9_wants 73 = .ok (.invokestatic 188, 3) := by decide +kernel
theorem dX9_wants_76 : decode cX9_wants 76 = .ok (.ireturn, 1) := by decide +kernel
theorem dX9_wants_77 : decode cX9_wants 77 = .ok (.bipush (-2), 2) := by decide +kernel
theorem dX9_wants_79 : decode cX9_wants 79 = .ok (.ireturn, 1) := by decide +kernel
theorem dX9_changes_0 : decode cX9_changes 0 = .ok (.aload_n 0, 1) := by decide +kernel
theorem dX9_changes_1 : decode cX9_changes 1 = .ok (.iload_n 1, 1) := by decide +kernel
theorem dX9_changes_2 : decode cX9_changes 2 = .ok (.invokevirtual 158, 3) := by decide +kernel
theorem dX9_changes_5 : decode cX9_changes 5 = .ok (.astore_n 3, 1) := by decide +kernel
theorem dX9_changes_6 : decode cX9_changes 6 = .ok (.aload_n 0, 1) := by decide +kernel
theorem dX9_changes_7 : decode cX9_changes 7 = .ok (.iload_n 2, 1) := by decide +kernel
theorem dX9_changes_8 : decode cX9_changes 8 = .ok (.invokevirtual 158, 3) := by decide +kernel
theorem dX9_changes_11 : decode cX9_changes 11 = .ok (.astore 4, 2) := by decide +kernel
theorem dX9_changes_13 : decode cX9_changes 13 = .ok (.aload_n 3, 1) := by decide +kernel
theorem dX9_changes_14 : decode cX9_changes 14 = .ok (.ifnull 8, 3) := by decide +kernel
theorem dX9_changes_17 : decode cX9_changes 17 = .ok (.aload 4, 2) := by decide +kernel
theorem dX9_changes_19 : decode cX9_changes 19 = .ok (.ifnonnull 5, 3) := by decide +kernel
theorem dX9_changes_22 : decode cX9_changes 22 = .ok (.iconst (-1), 1) := by decide +kernel
theorem dX9_changes_23 : decode cX9_changes 23 = .ok (.ireturn, 1) := by decide +kernel
theorem dX9_changes_24 : decode cX9_changes 24 = .ok (.aload_n 0, 1) := by decide +kernel
theorem dX9_changes_25 : decode cX9_changes 25 = .ok (.getfield 54, 3) := by decide +kernel
theorem dX9_changes_28 : decode cX9_changes 28 = .ok (.aload_n 3, 1) := by decide +kernel
theorem dX9_changes_29 : decode cX9_changes 29 = .ok (.aload 4, 2) := by decide +kernel
theorem dX9_changes_31 : decode cX9_changes 31 = .ok (.invokevirtual 221, 3) := by decide +kernel
theorem dX9_changes_34 : decode cX9_changes 34 = .ok (.ireturn, 1) := by decide +kernel
theorem dX9_set_0 : decode cX9_set 0 = .ok (.iload_n 1, 1) := by decide +kernel
theorem dX9_set_1 : decode cX9_set 1 = .ok (.iconst 0, 1) := by decide +kernel
theorem dX9_set_2 : decode cX9_set 2 = .ok (.bipush 8, 2) := by decide +kernel
theorem dX9_set_4 : decode cX9_set 4 = .ok (.invokestatic 95, 3) := by decide +kernel
theorem dX9_set_7 : decode cX9_set 7 = .ok (.ifCond .eq 20, 3) := by decide +kernel
theorem dX9_set_10 : decode cX9_set 10 = .ok (.iload_n 2, 1) := by decide +kernel
theorem dX9_set_11 : decode cX9_set 11 = .ok (.getstatic 225, 3) := by decide +kernel
theorem dX9_set_14 : decode cX9_set 14 = .ok (.iload_n 1, 1) := by decide +kernel
theorem dX9_set_15 : decode cX9_set 15 = .ok (.iaload, 1) := by decide +kernel
theorem dX9_set_16 : decode cX9_set 16 = .ok (.getstatic 228, 3) := by decide +kernel
theorem dX9_set_19 : decode cX9_set 19 = .ok (.iload_n 1, 1) := by decide +kernel
theorem dX9_set_20 : decode cX9_set 20 = .ok (.iaload, 1) := by decide +kernel
theorem dX9_set_21 : decode cX9_set 21 = .ok (.invokestatic 95, 3) := by decide +kernel
theorem dX9_set_24 : decode cX9_set 24 = .ok (.ifCond .ne 6, 3) := by decide +kernel
theorem dX9_set_27 : decode cX9_set 27 = .ok (.bipush (-2), 2) := by decide +kernel
theorem dX9_set_29 : decode cX9_set 29 = .ok (.ireturn, 1) := by decide +kernel
theorem dX9_set_30 : decode cX9_set 30 = .ok (.aload_n 0, 1) := by decide +kernel
theorem dX9_set_31 : decode cX9_set 31 = .ok (.getfield 7, 3) := by decide +kernel
theorem dX9_set_34 : decode cX9_set 34 = .ok (.iload_n 1, 1) := by decide +kernel
theorem dX9_set_35 : decode cX9_set 35 = .ok (.iaload, 1) := by decide +kernel
theorem dX9_set_36 : decode cX9_set 36 = .ok (.istore_n 3, 1) := by decide +kernel
theorem dX9_set_37 : decode cX9_set 37 = .ok (.aload_n 0, 1) := by decide +kernel
theorem dX9_set_38 : decode cX9_set 38 = .ok (.getfield 7, 3) := by decide +kernel
theorem dX9_set_41 : decode cX9_set 41 = .ok (.iload_n 1, 1) := by decide +kernel
theorem dX9_set_42 : decode cX9_set 42 = .ok (.iload_n 2, 1) := by decide +kernel
theorem dX9_set_43 : decode cX9_set 43 = .ok (.iastore, 1) := by decide +kernel
theorem dX9_set_44 : decode cX9_set 44 = .ok (.iload_n 1, 1) := by decide +kernel
theorem dX9_set_45 : decode cX9_set 45 = .ok (.ifCond .ne 11, 3) := by decide +kernel
theorem dX9_set_48 : decode cX9_set 48 = .ok (.aload_n 0, 1) := by decide +kernel
theorem dX9_set_49 : decode cX9_set 49 = .ok (.getfield 54, 3) := by decide +kernel
theorem dX9_set_52 : decode cX9_set 52 = .ok (.iconst 0, 1) := by decide +kernel
theorem dX9_set_53 : decode cX9_set 53 = .ok (.putfield 124, 3) := by decide +kernel
theorem dX9_set_56 : decode cX9_set 56 = .ok (.iload_n 3, 1) := by decide +kernel
theorem dX9_set_57 : decode cX9_set 57 = .ok (.ireturn, 1) := by decide +kernel
theorem dX9_gatherList_0 : decode cX9_gatherList 0 = .ok (.aload_n 1, 1) := by decide +kernel
theorem dX9_gatherList_1 : decode cX9_gatherList 1 = .ok (.getfield 334, 3) := by decide +kernel
theorem dX9_gatherList_4 : decode cX9_gatherList 4 = .ok (.ifCond .eq 24, 3) := by decide +kernel
theorem dX9_gatherList_7 : decode cX9_gatherList 7 = .ok (.aload_n 0, 1) := by decide +kernel
theorem dX9_gatherList_8 : decode cX9_gatherList 8 = .ok (.getfield 54, 3) := by decide +kernel
theorem dX9_gatherList_11 : decode cX9_gatherList 11 = .ok (.aload_n 0, 1) := by decide +kernel
theorem dX9_gatherList_12 : decode cX9_gatherList 12 = .ok (.getfield 32, 3) := by decide +kernel
theorem dX9_gatherList_15 : decode cX9_gatherList 15 = .ok (.aload_n 0, 1) := by decide +kernel
theorem dX9_gatherList_16 : decode cX9_gatherList 16 = .ok (.getfield 29, 3) := by decide +kernel
theorem dX9_gatherList_19 : decode cX9_gatherList 19 = .ok (.aload_n 0, 1) := by decide +kernel
theorem dX9_gatherList_20 : decode cX9_gatherList 20 = .ok (.getfield 7, 3) := by decide +kernel
theorem dX9_gatherList_23 : decode cX9_gatherList 23 = .ok (.iconst 0, 1) := by decide +kernel
theorem dX9_gatherList_24 : decode cX9_gatherList 24 = .ok (.iaload, 1) := by decide +kernel
theorem dX9_gatherList_25 : decode cX9_gatherList 25 = .ok (.invokevirtual 162, 3) := by decide +kernel
theorem dX9_gatherList_28 : decode cX9_gatherList 28 = .ok (.aload_n 0, 1) := by decide +kernel
theorem dX9_gatherList_29 : decode cX9_gatherList 29 = .ok (.iconst 0, 1) := by decide +kernel
theorem dX9_gatherList_30 : decode cX9_gatherList 30 = .ok (.putfield 61, 3) := by decide +kernel
theorem dX9_gatherList_33 : decode cX9_gatherList 33 = .ok (.iconst 0, 1) := by decide +kernel
theorem dX9_gatherList_34 : decode cX9_gatherList 34 = .ok (.istore_n 3, 1) := by decide +kernel
theorem dX9_gatherList_35 : decode cX9_gatherList 35 = .ok (.iconst 0, 1) := by decide +kernel
theorem dX9_gatherList_36 : decode cX9_gatherList 36 = .ok (.istore 4, 2) := by decide +kernel
theorem dX9_gatherList_38 : decode cX9_gatherList 38 = .ok (.iload 4, 2) := by decide +kernel
theorem dX9_gatherList_40 : decode cX9_gatherList 40 = .ok (.aload_n 0, 1) := by decide +kernel
theorem dX9_gatherList_41 : decode cX9_gatherList 41 = .ok (.getfield 29, 3) := by decide +kernel
theorem dX9_gatherList_44 : decode cX9_gatherList 44 = .ok (.if_icmp .ge 109, 3) := by decide +kernel
theorem dX9_gatherList_47 : decode cX9_gatherList 47 = .ok (.aload_n 0, 1) := by decide +kernel
theorem dX9_gatherList_48 : decode cX9_gatherList 48 = .ok (.getfield 32, 3) := by decide +kernel
theorem dX9_gatherList_51 : decode cX9_gatherList 51 = .ok (.iload 4, 2) := by decide +kernel
theorem dX9_gatherList_53 : decode cX9_gatherList 53 = .ok (.aaload, 1) := by decide +kernel
theorem dX9_gatherList_54 : decode cX9_gatherList 54 = .ok (.astore 5, 2) := by decide +kernel
theorem dX9_gatherList_56 : decode cX9_gatherList 56 = .ok (.aload_n 1, 1) := by decide +kernel
theorem dX9_gatherList_57 : decode cX9_gatherList 57 = .ok (.aload 5, 2) := by decide +kernel
theorem dX9_gatherList_59 : decode cX9_gatherList 59 = .ok (.invokevirtual 212, 3) := by decide +kernel
theorem dX9_gatherList_62 : decode cX9_gatherList 62 = .ok (.ifCond .ne 6, 3) := by decide +kernel
theorem dX9_gatherList_65 : decode cX9_gatherList 65 = .ok (.goto 82, 3) := by decide +kernel
theorem dX9_gatherList_68 : decode cX9_gatherList 68 = .ok (.aload_n 1, 1) := by decide +kernel
theorem dX9_gatherList_69 : decode cX9_gatherList 69 = .ok (.getfield 334, 3) := by decide +kernel
theorem dX9_gatherList_72 : decode cX9_gatherList 72 = .ok (.ifCond .eq 18, 3) := by decide +kernel
theorem dX9_gatherList_75 : decode cX9_gatherList 75 = .ok (.iload_n 3, 1) := by decide +kernel
theorem dX9_gatherList_76 : decode cX9_gatherList 76 = .ok (.aload 5, 2) := by decide +kernel
theorem dX9_gatherList_78 : decode cX9_gatherList 78 = .ok (.getfield 177, 3) := by decide +kernel
theorem dX9_gatherList_81 : decode cX9_gatherList 81 = .ok (.invokestatic 292, 3) := by decide +kernel
theorem dX9_gatherList_84 : decode cX9_gatherList 84 = .ok (.ifCond .eq 6, 3) := by decide +kernel
theorem dX9_gatherList_87 : decode cX9_gatherList 87 = .ok (.goto 60, 3) := by decide +kernel
theorem dX9_gatherList_90 : decode cX9_gatherList 90 = .ok (.iload_n 3, 1) := by decide +kernel
theorem dX9_gatherList_91 : decode cX9_gatherList 91 = .ok (.iconst 1, 1) := by decide +kernel
theorem dX9_gatherList_92 : decode cX9_gatherList 92 = .ok (.aload 5, 2) := by decide +kernel
theorem dX9_gatherList_94 : decode cX9_gatherList 94 = .ok (.getfield 177, 3) := by decide +kernel
theorem dX9_gatherList_97 : decode cX9_gatherList 97 = .ok (.ishl, 1) := by decide +kernel
theorem dX9_gatherList_98 : decode cX9_gatherList 98 = .ok (.ior, 1) := by decide +kernel
theorem dX9_gatherList_99 : decode cX9_gatherList 99 = .ok (.istore_n 3, 1) := by decide +kernel
theorem dX9_gatherList_100 : decode cX9_gatherList 100 = .ok (.aload 5, 2) := by decide +kernel
theorem dX9_gatherList_102 : decode cX9_gatherList 102 = .ok (.getfield 166, 3) := by decide +kernel
theorem dX9_gatherList_105 : decode cX9_gatherList 105 = .ok (.getfield 131, 3) := by decide +kernel
theorem dX9_gatherList_108 : decode cX9_gatherList 108 = .ok (.iload_n 2, 1) := by decide +kernel
theorem dX9_gatherList_109 : decode cX9_gatherList 109 = .ok (.if_icmp .ne 38, 3) := by decide +kernel
theorem dX9_gatherList_112 : decode cX9_gatherList 112 = .ok (.aload_n 0, 1) := by decide +kernel
theorem dX9_gatherList_113 : decode cX9_gatherList 113 = .ok (.getfield 61, 3) := by decide +kernel
theorem dX9_gatherList_116 : decode cX9_gatherList 116 = .ok (.aload_n 1, 1) := by decide +kernel
theorem dX9_gatherList_117 : decode cX9_gatherList 117 = .ok (.getfield 337, 3) := by decide +kernel
theorem dX9_gatherList_120 : decode cX9_gatherList 120 = .ok (.if_icmp .ge 27, 3) := by decide +kernel
theorem dX9_gatherList_123 : decode cX9_gatherList 123 = .ok (.aload_n 0, 1) := by decide +kernel
theorem dX9_gatherList_124 : decode cX9_gatherList 124 = .ok (.getfield 58, 3) := by decide +kernel
theorem dX9_gatherList_127 : decode cX9_gatherList 127 = .ok (.aload_n 0, 1) := by decide +kernel
theorem dX9_gatherList_128 : decode cX9_gatherList 128 = .ok (.getfield 61, 3) := by decide +kernel
theorem dX9_gatherList_131 : decode cX9_gatherList 131 = .ok (.aload 5, 2) := by decide +kernel
theorem dX9_gatherList_133 : decode cX9_gatherList 133 = .ok (.getfield 324, 3) := by decide +kernel
theorem dX9_gatherList_136 : decode cX9_gatherList 136 = .ok (.iastore, 1) := by decide +kernel
theorem dX9_gatherList_137 : decode cX9_gatherList 137 = .ok (.aload_n 0, 1) := by decide +kernel
theorem dX9_gatherList_138 : decode cX9_gatherList 138 = .ok (.dup, 1) := by decide +kernel
theorem dX9_gatherList_139 : decode cX9_gatherList 139 = .ok (.getfield 61, 3) := by decide +kernel
theorem dX9_gatherList_142 : decode cX9_gatherList 142 = .ok (.iconst 1, 1) := by decide +kernel
theorem dX9_gatherList_143 : decode cX9_gatherList 143 = .ok (.iadd, 1) := by decide +kernel
theorem dX9_gatherList_144 : decode cX9_gatherList 144 = .ok (.putfield 61, 3) := by decide +kernel
theorem dX9_gatherList_147 : decode cX9_gatherList 147 = .ok (.iinc 4 1, 3) := by decide +kernel
theorem dX9_gatherList_150 : decode cX9_gatherList 150 = .ok (.goto (-112), 3) := by decide +kernel
theorem dX9_gatherList_153 : decode cX9_gatherList 153 = .ok (.return_, 1) := by decide +kernel
theorem dX9_list_0 : decode cX9_list 0 = .ok (.aload_n 0, 1) := by decide +kernel
theorem dX9_list_1 : decode cX9_list 1 = .ok (.iload_n 1, 1) := by decide +kernel
theorem dX9_list_2 : decode cX9_list 2 = .ok (.invokevirtual 208, 3) := by decide +kernel
theorem dX9_list_5 : decode cX9_list 5 = .ok (.astore 4, 2) := by decide +kernel
theorem dX9_list_7 : decode cX9_list 7 = .ok (.aload 4, 2) := by decide +kernel
theorem dX9_list_9 : decode cX9_list 9 = .ok (.ifnonnull 5, 3) := by decide +kernel
theorem dX9_list_12 : decode cX9_list 12 = .ok (.iconst (-1), 1) := by decide +kernel
theorem dX9_list_13 : decode cX9_list 13 = .ok (.ireturn, 1) := by decide +kernel
theorem dX9_list_14 : decode cX9_list 14 = .ok (.iload_n 2, 1) := by decide +kernel
theorem dX9_list_15 : decode cX9_list 15 = .ok (.invokestatic 99, 3) := by decide +kernel
theorem dX9_list_18 : decode cX9_list 18 = .ok (.ifCond .ne 6, 3) := by decide +kernel
theorem dX9_list_21 : decode cX9_list 21 = .ok (.bipush (-2), 2) := by decide +kernel
theorem dX9_list_23 : decode cX9_list 23 = .ok (.ireturn, 1) := by decide +kernel
theorem dX9_list_24 : decode cX9_list 24 = .ok (.aload_n 0, 1) := by decide +kernel
theorem dX9_list_25 : decode cX9_list 25 = .ok (.aload 4, 2) := by decide +kernel
theorem dX9_list_27 : decode cX9_list 27 = .ok (.iload_n 2, 1) := by decide +kernel
theorem dX9_list_28 : decode cX9_list 28 = .ok (.invokevirtual 231, 3) := by decide +kernel
theorem dX9_list_31 : decode cX9_list 31 = .ok (.iload_n 3, 1) := by decide +kernel
theorem dX9_list_32 : decode cX9_list 32 = .ok (.iconst (-1), 1) := by decide +kernel
theorem dX9_list_33 : decode cX9_list 33 = .ok (.if_icmp .ne 8, 3) := by decide +kernel
theorem dX9_list_36 : decode cX9_list 36 = .ok (.aload_n 0, 1) := by decide +kernel
theorem dX9_list_37 : decode cX9_list 37 = .ok (.getfield 61, 3) := by decide +kernel
theorem dX9_list_40 : decode cX9_list 40 = .ok (.ireturn, 1) := by decide +kernel
theorem dX9_list_41 : decode cX9_list 41 = .ok (.iload_n 3, 1) := by decide +kernel
theorem dX9_list_42 : decode cX9_list 42 = .ok (.iconst 0, 1) := by decide +kernel
theorem dX9_list_43 : decode cX9_list 43 = .ok (.aload_n 0, 1) := by decide +kernel
theorem dX9_list_44 : decode cX9_list 44 = .ok (.getfield 61, 3) := by decide +kernel
theorem dX9_list_47 : decode cX9_list 47 = .ok (.iconst 1, 1) := by decide +kernel
theorem dX9_list_48 : decode cX9_list 48 = .ok (.isub, 1) := by decide +kernel
theorem dX9_list_49 : decode cX9_list 49 = .ok (.invokestatic 95, 3) := by decide +kernel
theorem dX9_list_52 : decode cX9_list 52 = .ok (.ifCond .eq 12, 3) := by decide +kernel
theorem dX9_list_55 : decode cX9_list 55 = .ok (.aload_n 0, 1) := by decide +kernel
theorem dX9_list_56 : decode cX9_list 56 = .ok (.getfield 58, 3) := by decide +kernel
theorem dX9_list_59 : decode cX9_list 59 = .ok (.iload_n 3, 1) := by decide +kernel
theorem dX9_list_60 : decode cX9_list 60 = .ok (.iaload, 1) := by decide +kernel
theorem dX9_list_61 : decode cX9_list 61 = .ok (.goto 5, 3) := by decide +kernel
theorem dX9_list_64 : decode cX9_list 64 = .ok (.bipush (-6), 2) := by decide +kernel
theorem dX9_list_66 : decode cX9_list 66 = .ok (.ireturn, 1) := by decide +kernel
theorem dX9_isName_0 : decode cX9_isName 0 = .ok (.iload_n 0, 1) := by decide +kernel
theorem dX9_isName_1 : decode cX9_isName 1 = .ok (.iconst 0, 1) := by decide +kernel
theorem dX9_isName_2 : decode cX9_isName 2 = .ok (.iconst 3, 1) := by decide +kernel
theorem dX9_isName_3 : decode cX9_isName 3 = .ok (.invokestatic 95, 3) := by decide +kernel
theorem dX9_isName_6 : decode cX9_isName 6 = .ok (.ireturn, 1) := by decide +kernel
theorem dX9_name_0 : decode cX9_name 0 = .ok (.iload_n 1, 1) := by decide +kernel
theorem dX9_name_1 : decode cX9_name 1 = .ok (.invokestatic 235, 3) := by decide +kernel
theorem dX9_name_4 : decode cX9_name 4 = .ok (.ifCond .ne 5, 3) := by decide +kernel
theorem dX9_name_7 : decode cX9_name 7 = .ok (.iconst (-1), 1) := by decide +kernel
theorem dX9_name_8 : decode cX9_name 8 = .ok (.ireturn, 1) := by decide +kernel
theorem dX9_name_9 : decode cX9_name 9 = .ok (.iload_n 2, 1) := by decide +kernel
theorem dX9_name_10 : decode cX9_name 10 = .ok (.invokestatic 110, 3) := by decide +kernel
theorem dX9_name_13 : decode cX9_name 13 = .ok (.ifCond .ne 6, 3) := by decide +kernel
theorem dX9_name_16 : decode cX9_name 16 = .ok (.bipush (-2), 2) := by decide +kernel
theorem dX9_name_18 : decode cX9_name 18 = .ok (.ireturn, 1) := by decide +kernel
theorem dX9_name_19 : decode cX9_name 19 = .ok (.aload_n 0, 1) := by decide +kernel
theorem dX9_name_20 : decode cX9_name 20 = .ok (.getfield 66, 3) := by decide +kernel
theorem dX9_name_23 : decode cX9_name 23 = .ok (.iload_n 1, 1) := by decide +kernel
theorem dX9_name_24 : decode cX9_name 24 = .ok (.aaload, 1) := by decide +kernel
theorem dX9_name_25 : decode cX9_name 25 = .ok (.getfield 238, 3) := by decide +kernel
theorem dX9_name_28 : decode cX9_name 28 = .ok (.istore_n 3, 1) := by decide +kernel
theorem dX9_name_29 : decode cX9_name 29 = .ok (.aload_n 0, 1) := by decide +kernel
theorem dX9_name_30 : decode cX9_name 30 = .ok (.getfield 66, 3) := by decide +kernel
theorem dX9_name_33 : decode cX9_name 33 = .ok (.iload_n 1, 1) := by decide +kernel
theorem dX9_name_34 : decode cX9_name 34 = .ok (.aaload, 1) := by decide +kernel
theorem dX9_name_35 : decode cX9_name 35 = .ok (.iload_n 2, 1) := by decide +kernel
theorem dX9_name_36 : decode cX9_name 36 = .ok (.ifCond .ge 8, 3) := by decide +kernel
theorem dX9_name_39 : decode cX9_name 39 = .ok (.bipush (-6), 2) := by decide +kernel
theorem dX9_name_41 : decode cX9_name 41 = .ok (.goto 4, 3) := by decide +kernel
theorem dX9_name_44 : decode cX9_name 44 = .ok (.iload_n 2, 1) := by decide +kernel
theorem dX9_name_45 : decode cX9_name 45 = .ok (.putfield 238, 3) := by decide +kernel
theorem dX9_name_48 : decode cX9_name 48 = .ok (.iload_n 3, 1) := by decide +kernel
theorem dX9_name_49 : decode cX9_name 49 = .ok (.ireturn, 1) := by decide +kernel
theorem dX9_counts_0 : decode cX9_counts 0 = .ok (.iload_n 1, 1) := by decide +kernel
theorem dX9_counts_1 : decode cX9_counts 1 = .ok (.invokestatic 235, 3) := by decide +kernel
theorem dX9_counts_4 : decode cX9_counts 4 = .ok (.ifCond .ne 5, 3) := by decide +kernel
theorem dX9_counts_7 : decode cX9_counts 7 = .ok (.iconst (-1), 1) := by decide +kernel
theorem dX9_counts_8 : decode cX9_counts 8 = .ok (.ireturn, 1) := by decide +kernel
theorem dX9_counts_9 : decode cX9_counts 9 = .ok (.iload_n 2, 1) := by decide +kernel
theorem dX9_counts_10 : decode cX9_counts 10 = .ok (.iconst 0, 1) := by decide +kernel
theorem dX9_counts_11 : decode cX9_counts 11 = .ok (.bipush 99, 2) := by decide +kernel
theorem dX9_counts_13 : decode cX9_counts 13 = .ok (.invokestatic 95, 3) := by decide +kernel
theorem dX9_counts_16 : decode cX9_counts 16 = .ok (.ifCond .eq 14, 3) := by decide +kernel
theorem dX9_counts_19 : decode cX9_counts 19 = .ok (.iload_n 3, 1) := by decide +kernel
theorem dX9_counts_20 : decode cX9_counts 20 = .ok (.bipush (-100), 2) := by decide +kernel
theorem dX9_counts_22 : decode cX9_counts 22 = .ok (.bipush 100, 2) := by decide +kernel
theorem dX9_counts_24 : decode cX9_counts 24 = .ok (.invokestatic 95, 3) := by decide +kernel
theorem dX9_counts_27 : decode cX9_counts 27 = .ok (.ifCond .ne 6, 3) := by decide +kernel
theorem dX9_counts_30 : decode cX9_counts 30 = .ok (.bipush (-2), 2) := by decide +kernel
theorem dX9_counts_32 : decode cX9_counts 32 = .ok (.ireturn, 1) := by decide +kernel
theorem dX9_counts_33 : decode cX9_counts 33 = .ok (.aload_n 0, 1) := by decide +kernel
theorem dX9_counts_34 : decode cX9_counts 34 = .ok (.getfield 66, 3) := by decide +kernel
theorem dX9_counts_37 : decode cX9_counts 37 = .ok (.iload_n 1, 1) := by decide +kernel
theorem dX9_counts_38 : decode cX9_counts 38 = .ok (.aaload, 1) := by decide +kernel
theorem dX9_counts_39 : decode cX9_counts 39 = .ok (.getfield 241, 3) := by decide +kernel
theorem dX9_counts_42 : decode cX9_counts 42 = .ok (.iload_n 2, 1) := by decide +kernel
theorem dX9_counts_43 : decode cX9_counts 43 = .ok (.iaload, 1) := by decide +kernel
theorem dX9_counts_44 : decode cX9_counts 44 = .ok (.istore 4, 2) := by decide +kernel
theorem dX9_counts_46 : decode cX9_counts 46 = .ok (.aload_n 0, 1) := by decide +kernel
theorem dX9_counts_47 : decode cX9_counts 47 = .ok (.getfield 66, 3) := by decide +kernel
theorem dX9_counts_50 : decode cX9_counts 50 = .ok (.iload_n 1, 1) := by decide +kernel
theorem dX9_counts_51 : decode cX9_counts 51 = .ok (.aaload, 1) := by decide +kernel
theorem dX9_counts_52 : decode cX9_counts 52 = .ok (.getfield 241, 3) := by decide +kernel
theorem dX9_counts_55 : decode cX9_counts 55 = .ok (.iload_n 2, 1) := by decide +kernel
theorem dX9_counts_56 : decode cX9_counts 56 = .ok (.iload_n 3, 1) := by decide +kernel
theorem dX9_counts_57 : decode cX9_counts 57 = .ok (.iastore, 1) := by decide +kernel
theorem dX9_counts_58 : decode cX9_counts 58 = .ok (.iload 4, 2) := by decide +kernel
theorem dX9_counts_60 : decode cX9_counts 60 = .ok (.ireturn, 1) := by decide +kernel
theorem dX2_sumAround_0 : decode cX2_sumAround 0 = .ok (.iconst 0, 1) := by decide +kernel
theorem dX2_sumAround_1 : decode cX2_sumAround 1 = .ok (.istore 4, 2) := by decide +kernel
theorem dX2_sumAround_3 : decode cX2_sumAround 3 = .ok (.iconst 0, 1) := by decide +kernel
theorem dX2_sumAround_4 : decode cX2_sumAround 4 = .ok (.iload_n 2, 1) := by decide +kernel
theorem dX2_sumAround_5 : decode cX2_sumAround 5 = .ok (.iload_n 3, 1) := by decide +kernel
theorem dX2_sumAround_6 : decode cX2_sumAround 6 = .ok (.isub, 1) := by decide +kernel
theorem dX2_sumAround_7 : decode cX2_sumAround 7 = .ok (.invokestatic 31, 3) := by decide +kernel
theorem dX2_sumAround_10 : decode cX2_sumAround 10 = .ok (.istore 5, 2) := by decide +kernel
theorem dX2_sumAround_12 : decode cX2_sumAround 12 = .ok (.iload 5, 2) := by decide +kernel
theorem dX2_sumAround_14 : decode cX2_sumAround 14 = .ok (.aload_n 1, 1) := by decide +kernel
theorem dX2_sumAround_15 : decode cX2_sumAround 15 = .ok (.getfield 19, 3) := by decide +kernel
theorem dX2_sumAround_18 : decode cX2_sumAround 18 = .ok (.if_icmp .ge 40, 3) := by decide +kernel
theorem dX2_sumAround_21 : decode cX2_sumAround 21 = .ok (.iload 5, 2) := by decide +kernel
theorem dX2_sumAround_23 : decode cX2_sumAround 23 = .ok (.iload_n 2, 1) := by decide +kernel
theorem dX2_sumAround_24 : decode cX2_sumAround 24 = .ok (.iload_n 3, 1) := by decide +kernel
theorem dX2_sumAround_25 : decode cX2_sumAround 25 = .ok (.iadd, 1) := by decide +kernel
theorem dX2_sumAround_26 : decode cX2_sumAround 26 = .ok (.if_icmp .gt 32, 3) := by decide +kernel
theorem dX2_sumAround_29 : decode cX2_sumAround 29 = .ok (.iload 5, 2) := by decide +kernel
theorem dX2_sumAround_31 : decode cX2_sumAround 31 = .ok (.iload_n 2, 1) := by decide +kernel
theorem dX2_sumAround_32 : decode cX2_sumAround 32 = .ok (.if_icmp .eq 20, 3) := by decide +kernel
theorem dX2_sumAround_35 : decode cX2_sumAround 35 = .ok (.iload 4, 2) := by decide +kernel
theorem dX2_sumAround_37 : decode cX2_sumAround 37 = .ok (.aload_n 0, 1) := by decide +kernel
theorem dX2_sumAround_38 : decode cX2_sumAround 38 = .ok (.getfield 15, 3) := by decide +kernel
theorem dX2_sumAround_41 : decode cX2_sumAround 41 = .ok (.aload_n 1, 1) := by decide +kernel
theorem dX2_sumAround_42 : decode cX2_sumAround 42 = .ok (.getfield 24, 3) := by decide +kernel
theorem dX2_sumAround_45 : decode cX2_sumAround 45 = .ok (.iload 5, 2) := by decide +kernel
theorem dX2_sumAround_47 : decode cX2_sumAround 47 = .ok (.iaload, 1) := by decide +kernel
theorem dX2_sumAround_48 : decode cX2_sumAround 48 = .ok (.iaload, 1) := by decide +kernel
theorem dX2_sumAround_49 : decode cX2_sumAround 49 = .ok (.iadd, 1) := by decide +kernel
theorem dX2_sumAround_50 : decode cX2_sumAround 50 = .ok (.istore 4, 2) := by decide +kernel
theorem dX2_sumAround_52 : decode cX2_sumAround 52 = .ok (.iinc 5 1, 3) := by decide +kernel
theorem dX2_sumAround_55 : decode cX2_sumAround 55 = .ok (.goto (-43), 3) := by decide +kernel
theorem dX2_sumAround_58 : decode cX2_sumAround 58 = .ok (.iload 4, 2) := by decide +kernel
theorem dX2_sumAround_60 : decode cX2_sumAround 60 = .ok (.ireturn, 1) := by decide +kernel
theorem dX2_likeliestPlace_0 : decode cX2_likeliestPlace 0 = .ok (.bipush (-6), 2) := by decide +kernel
theorem dX2_likeliestPlace_2 : decode cX2_likeliestPlace 2 = .ok (.istore_n 3, 1) := by decide +kernel
theorem dX2_likeliestPlace_3 : decode cX2_likeliestPlace 3 = .ok (.iconst 0, 1) := by decide +kernel
theorem dX2_likeliestPlace_4 : decode cX2_likeliestPlace 4 = .ok (.istore 4, 2) := by decide +kernel
theorem dX2_likeliestPlace_6 : decode cX2_likeliestPlace 6 = .ok (.iconst 0, 1) := by decide +kernel
theorem dX2_likeliestPlace_7 : decode cX2_likeliestPlace 7 = .ok (.istore 5, 2) := by decide +kernel
theorem dX2_likeliestPlace_9 : decode cX2_likeliestPlace 9 = .ok (.iload 5, 2) := by decide +kernel
theorem dX2_likeliestPlace_11 : decode cX2_likeliestPlace 11 = .ok (.aload_n 1, 1) := by decide +kernel
theorem dX2_likeliestPlace_12 : decode cX2_likeliestPlace 12 = .ok (.getfield 19, 3) := by decide +kernel
theorem dX2_likeliestPlace_15 : decode cX2_likeliestPlace 15 = .ok (.if_icmp .ge 53, 3) := by decide +kernel
theorem dX2_likeliestPlace_18 : decode cX2_likeliestPlace 18 = .ok (.aload_n 1, 1) := by decide +kernel
theorem dX2_likeliestPlace_19 : decode cX2_likeliestPlace 19 = .ok (.getfield 24, 3) := by decide +kernel
theorem dX2_likeliestPlace_22 : decode cX2_likeliestPlace 22 = .ok (.iload 5, 2) := by decide +kernel
theorem dX2_likeliestPlace_24 : decode cX2_likeliestPlace 24 = .ok (.iaload, 1) := by decide +kernel
theorem dX2_likeliestPlace_25 : decode cX2_likeliestPlace 25 = .ok (.aload_n 0, 1) := by decide +kernel
theorem dX2_likeliestPlace_26 : decode cX2_likeliestPlace 26 = .ok (.getfield 9, 3) := by decide +kernel
theorem dX2_likeliestPlace_29 : decode cX2_likeliestPlace 29 = .ok (.if_icmp .ne 33, 3) := by decide +kernel
theorem dX2_likeliestPlace_32 : decode cX2_likeliestPlace 32 = .ok (.aload_n 0, 1) := by decide +kernel
theorem dX2_likeliestPlace_33 : decode cX2_likeliestPlace 33 = .ok (.aload_n 1, 1) := by decide +kernel
theorem dX2_likeliestPlace_34 : decode cX2_likeliestPlace 34 = .ok (.iload 5, 2) := by decide +kernel
theorem dX2_likeliestPlace_36 : decode cX2_likeliestPlace 36 = .ok (.iload_n 2, 1) := by decide +kernel
theorem dX2_likeliestPlace_37 : decode cX2_likeliestPlace 37 = .ok (.invokevirtual 27, 3) := by decide +kernel
theorem dX2_likeliestPlace_40 : decode cX2_likeliestPlace 40 = .ok (.istore 6, 2) := by decide +kernel
theorem dX2_likeliestPlace_42 : decode cX2_likeliestPlace 42 = .ok (.iload_n 3, 1) := by decide +kernel
theorem dX2_likeliestPlace_43 : decode cX2_likeliestPlace 43 = .ok (.bipush (-6), 2) := by decide +kernel
theorem dX2_likeliestPlace_45 : decode cX2_likeliestPlace 45 = .ok (.if_icmp .eq 10, 3) := by decide +kernel
theorem dX2_likeliestPlace_48 : decode cX2_likeliestPlace 48 = .ok (.iload 6, 2) := by decide +kernel
theorem dX2_likeliestPlace_50 : decode cX2_likeliestPlace 50 = .ok (.iload 4, 2) := by decide +kernel
theorem dX2_likeliestPlace_52 : decode cX2_likeliestPlace 52 = .ok (.if_icmp .le 10, 3) := by decide +kernel
theorem dX2_likeliestPlace_55 : decode cX2_likeliestPlace 55 = .ok (.iload 5, 2) := by decide +kernel
theorem dX2_likeliestPlace_57 : decode cX2_likeliestPlace 57 = .ok (.istore_n 3, 1) := by decide +kernel
theorem dX2_likeliestPlace_58 : decode cX2_likeliestPlace 58 = .ok (.iload 6, 2) := by decide +kernel
theorem dX2_likeliestPlace_60 : decode cX2_likeliestPlace 60 = .ok (.istore 4, 2) := by decide +kernel
theorem dX2_likeliestPlace_62 : decode cX2_likeliestPlace 62 = .ok (.iinc 5 1, 3) := by decide +kernel
theorem dX2_likeliestPlace_65 : decode cX2_likeliestPlace 65 = .ok (.goto (-56), 3) := by decide +kernel
theorem dX2_likeliestPlace_68 : decode cX2_likeliestPlace 68 = .ok (.iload_n 3, 1) := by decide +kernel
theorem dX2_likeliestPlace_69 : decode cX2_likeliestPlace 69 = .ok (.ireturn, 1) := by decide +kernel
theorem dX9_verdictOf_0 : decode cX9_verdictOf 0 = .ok (.iload_n 1, 1) := by decide +kernel
theorem dX9_verdictOf_1 : decode cX9_verdictOf 1 = .ok (.aload_n 0, 1) := by decide +kernel
theorem dX9_verdictOf_2 : decode cX9_verdictOf 2 = .ok (.getfield 7, 3) := by decide +kernel
theorem dX9_verdictOf_5 : decode cX9_verdictOf 5 = .ok (.iconst 2, 1) := by decide +kernel
theorem dX9_verdictOf_6 : decode cX9_verdictOf 6 = .ok (.iaload, 1) := by decide +kernel
theorem dX9_verdictOf_7 : decode cX9_verdictOf 7 = .ok (.if_icmp .lt 5, 3) := by decide +kernel
theorem dX9_verdictOf_10 : decode cX9_verdictOf 10 = .ok (.iconst 1, 1) := by decide +kernel
theorem dX9_verdictOf_11 : decode cX9_verdictOf 11 = .ok (.ireturn, 1) := by decide +kernel
theorem dX9_verdictOf_12 : decode cX9_verdictOf 12 = .ok (.iload_n 1, 1) := by decide +kernel
theorem dX9_verdictOf_13 : decode cX9_verdictOf 13 = .ok (.aload_n 0, 1) := by decide +kernel
theorem dX9_verdictOf_14 : decode cX9_verdictOf 14 = .ok (.getfield 7, 3) := by decide +kernel
theorem dX9_verdictOf_17 : decode cX9_verdictOf 17 = .ok (.iconst 2, 1) := by decide +kernel
theorem dX9_verdictOf_18 : decode cX9_verdictOf 18 = .ok (.iaload, 1) := by decide +kernel
theorem dX9_verdictOf_19 : decode cX9_verdictOf 19 = .ok (.ineg, 1) := by decide +kernel
theorem dX9_verdictOf_20 : decode cX9_verdictOf 20 = .ok (.if_icmp .gt 7, 3) := by decide +kernel
theorem dX9_verdictOf_23 : decode cX9_verdictOf 23 = .ok (.iconst 2, 1) := by decide +kernel
theorem dX9_verdictOf_24 : decode cX9_verdictOf 24 = .ok (.goto 4, 3) := by decide +kernel
theorem dX9_verdictOf_27 : decode cX9_verdictOf 27 = .ok (.iconst 3, 1) := by decide +kernel
theorem dX9_verdictOf_28 : decode cX9_verdictOf 28 = .ok (.ireturn, 1) := by decide +kernel
theorem dX9_likely_0 : decode cX9_likely 0 = .ok (.aload_n 0, 1) := by decide +kernel
theorem dX9_likely_1 : decode cX9_likely 1 = .ok (.iload_n 2, 1) := by decide +kernel
theorem dX9_likely_2 : decode cX9_likely 2 = .ok (.invokevirtual 158, 3) := by decide +kernel
theorem dX9_likely_5 : decode cX9_likely 5 = .ok (.astore 4, 2) := by decide +kernel
theorem dX9_likely_7 : decode cX9_likely 7 = .ok (.iload_n 1, 1) := by decide +kernel
theorem dX9_likely_8 : decode cX9_likely 8 = .ok (.invokestatic 235, 3) := by decide +kernel
theorem dX9_likely_11 : decode cX9_likely 11 = .ok (.ifCond .eq 8, 3) := by decide +kernel
theorem dX9_likely_14 : decode cX9_likely 14 = .ok (.aload 4, 2) := by decide +kernel
theorem dX9_likely_16 : decode cX9_likely 16 = .ok (.ifnonnull 5, 3) := by decide +kernel
theorem dX9_likely_19 : decode cX9_likely 19 = .ok (.iconst (-1), 1) := by decide +kernel
theorem dX9_likely_20 : decode cX9_likely 20 = .ok (.ireturn, 1) := by decide +kernel
theorem dX9_likely_21 : decode cX9_likely 21 = .ok (.aload_n 0, 1) := by decide +kernel
theorem dX9_likely_22 : decode cX9_likely 22 = .ok (.getfield 66, 3) := by decide +kernel
theorem dX9_likely_25 : decode cX9_likely 25 = .ok (.iload_n 1, 1) := by decide +kernel
theorem dX9_likely_26 : decode cX9_likely 26 = .ok (.aaload, 1) := by decide +kernel
theorem dX9_likely_27 : decode cX9_likely 27 = .ok (.aload 4, 2) := by decide +kernel
theorem dX9_likely_29 : decode cX9_likely 29 = .ok (.aload_n 0, 1) := by decide +kernel
theorem dX9_likely_30 : decode cX9_likely 30 = .ok (.getfield 7, 3) := by decide +kernel
theorem dX9_likely_33 : decode cX9_likely 33 = .ok (.iconst 1, 1) := by decide +kernel
theorem dX9_likely_34 : decode cX9_likely 34 = .ok (.iaload, 1) := by decide +kernel
theorem dX9_likely_35 : decode cX9_likely 35 = .ok (.invokevirtual 244, 3) := by decide +kernel
theorem dX9_likely_38 : decode cX9_likely 38 = .ok (.istore 5, 2) := by decide +kernel
theorem dX9_likely_40 : decode cX9_likely 40 = .ok (.iload 5, 2) := by decide +kernel
theorem dX9_likely_42 : decode cX9_likely 42 = .ok (.bipush (-6), 2) := by decide +kernel
theorem dX9_likely_44 : decode cX9_likely 44 = .ok (.if_icmp .ne 7, 3) := by decide +kernel
theorem dX9_likely_47 : decode cX9_likely 47 = .ok (.iconst 0, 1) := by decide +kernel
theorem dX9_likely_48 : decode cX9_likely 48 = .ok (.goto 22, 3) := by decide +kernel
theorem dX9_likely_51 : decode cX9_likely 51 = .ok (.aload_n 0, 1) := by decide +kernel
theorem dX9_likely_52 : decode cX9_likely 52 = .ok (.getfield 66, 3) := by decide +kernel
theorem dX9_likely_55 : decode cX9_likely 55 = .ok (.iload_n 1, 1) := by decide +kernel
theorem dX9_likely_56 : decode cX9_likely 56 = .ok (.aaload, 1) := by decide +kernel
theorem dX9_likely_57 : decode cX9_likely 57 = .ok (.aload 4, 2) := by decide +kernel
theorem dX9_likely_59 : decode cX9_likely 59 = .ok (.iload 5, 2) := by decide +kernel
theorem dX9_likely_61 : decode cX9_likely 61 = .ok (.aload_n 0, 1) := by decide +kernel
theorem dX9_likely_62 : decode cX9_likely 62 = .ok (.getfield 7, 3) := by decide +kernel
theorem dX9_likely_65 : decode cX9_likely 65 = .ok (.iconst 1, 1) := by decide +kernel
theorem dX9_likely_66 : decode cX9_likely 66 = .ok (.iaload, 1) := by decide +kernel
theorem dX9_likely_67 : decode cX9_likely 67 = .ok (.invokevirtual 248, 3) := by decide +kernel
theorem dX9_likely_70 : decode cX9_likely 70 = .ok (.istore 6, 2) := by decide +kernel
theorem dX9_likely_72 : decode cX9_likely 72 = .ok (.iload_n 3, 1) := by decide +kernel
theorem dX9_likely_73 : decode cX9_likely 73 = .ok (.tableswitch 51 0 2 #[27, 45, 48], 27) := by decide +kernel
theorem dX9_likely_100 : decode cX9_likely 100 = .ok (.iload 5, 2) := by decide +kernel
theorem dX9_likely_102 : decode cX9_likely 102 = .ok (.bipush (-6), 2) := by decide +kernel
theorem dX9_likely_104 : decode cX9_likely 104 = .ok (.if_icmp .ne 7, 3) := by decide +kernel
theorem dX9_likely_107 : decode cX9_likely 107 = .ok (.iconst 0, 1) := by decide +kernel
theorem dX9_likely_108 : decode cX9_likely 108 = .ok (.goto 9, 3) := by decide +kernel
theorem dX9_likely_111 : decode cX9_likely 111 = .ok (.aload_n 0, 1) := by decide +kernel
theorem dX9_likely_112 : decode cX9_likely 112 = .ok (.iload 6, 2) := by decide +kernel
theorem dX9_likely_114 : decode cX9_likely 114 = .ok (.invokevirtual 252, 3) := by decide +kernel
theorem dX9_likely_117 : decode cX9_likely 117 = .ok (.ireturn, 1) := by decide +kernel
theorem dX9_likely_118 : decode cX9_likely 118 = .ok (.iload 6, 2) := by decide +kernel
theorem dX9_likely_120 : decode cX9_likely 120 = .ok (.ireturn, 1) := by decide +kernel
theorem dX9_likely_121 : decode cX9_likely 121 = .ok (.iload 5, 2) := by decide +kernel
theorem dX9_likely_123 : decode cX9_likely 123 = .ok (.ireturn, 1) := by decide +kernel
theorem dX9_likely_124 : decode cX9_likely 124 = .ok (.bipush (-2), 2) := by decide +kernel
theorem dX9_likely_126 : decode cX9_likely 126 = .ok (.ireturn, 1) := by decide +kernel
theorem dX0_add_0 : decode cX0_add 0 = .ok (.aload_n 0, 1) := by decide +kernel
theorem dX0_add_1 : decode cX0_add 1 = .ok (.getfield 16, 3) := by decide +kernel
theorem dX0_add_4 : decode cX0_add 4 = .ok (.bipush 9, 2) := by decide +kernel
theorem dX0_add_6 : decode cX0_add 6 = .ok (.if_icmp .ge 33, 3) := by decide +kernel
theorem dX0_add_9 : decode cX0_add 9 = .ok (.aload_n 0, 1) := by decide +kernel
theorem dX0_add_10 : decode cX0_add 10 = .ok (.getfield 9, 3) := by decide +kernel
theorem dX0_add_13 : decode cX0_add 13 = .ok (.aload_n 0, 1) := by decide +kernel
theorem dX0_add_14 : decode cX0_add 14 = .ok (.getfield 16, 3) := by decide +kernel
theorem dX0_add_17 : decode cX0_add 17 = .ok (.iload_n 1, 1) := by decide +kernel
theorem dX0_add_18 : decode cX0_add 18 = .ok (.iastore, 1) := by decide +kernel
theorem dX0_add_19 : decode cX0_add 19 = .ok (.aload_n 0, 1) := by decide +kernel
theorem dX0_add_20 : decode cX0_add 20 = .ok (.getfield 13, 3) := by decide +kernel
theorem dX0_add_23 : decode cX0_add 23 = .ok (.aload_n 0, 1) := by decide +kernel
theorem dX0_add_24 : decode cX0_add 24 = .ok (.getfield 16, 3) := by decide +kernel
theorem dX0_add_27 : decode cX0_add 27 = .ok (.iload_n 2, 1) := by decide +kernel
theorem dX0_add_28 : decode cX0_add 28 = .ok (.iastore, 1) := by decide +kernel
theorem dX0_add_29 : decode cX0_add 29 = .ok (.aload_n 0, 1) := by decide +kernel
theorem dX0_add_30 : decode cX0_add 30 = .ok (.dup, 1) := by decide +kernel
theorem dX0_add_31 : decode cX0_add 31 = .ok (.getfield 16, 3) := by decide +kernel
theorem dX0_add_34 : decode cX0_add 34 = .ok (.iconst 1, 1) := by decide +kernel
theorem dX0_add_35 : decode cX0_add 35 = .ok (.iadd, 1) := by decide +kernel
theorem dX0_add_36 : decode cX0_add 36 = .ok (.putfield 16, 3) := by decide +kernel
theorem dX0_add_39 : decode cX0_add 39 = .ok (.return_, 1) := by decide +kernel
theorem dX9_gatherAsked_0 : decode cX9_gatherAsked 0 = .ok (.aload_n 0, 1) := by decide +kernel
theorem dX9_gatherAsked_1 : decode cX9_gatherAsked 1 = .ok (.getfield 73, 3) := by decide +kernel
theorem dX9_gatherAsked_4 : decode cX9_gatherAsked 4 = .ok (.iconst 0, 1) := by decide +kernel
theorem dX9_gatherAsked_5 : decode cX9_gatherAsked 5 = .ok (.putfield 259, 3) := by decide +kernel
theorem dX9_gatherAsked_8 : decode cX9_gatherAsked 8 = .ok (.iconst 0, 1) := by decide +kernel
theorem dX9_gatherAsked_9 : decode cX9_gatherAsked 9 = .ok (.istore_n 2, 1) := by decide +kernel
theorem dX9_gatherAsked_10 : decode cX9_gatherAsked 10 = .ok (.iload_n 2, 1) := by decide +kernel
theorem dX9_gatherAsked_11 : decode cX9_gatherAsked 11 = .ok (.aload_n 0, 1) := by decide +kernel
theorem dX9_gatherAsked_12 : decode cX9_gatherAsked 12 = .ok (.getfield 41, 3) := by decide +kernel
theorem dX9_gatherAsked_15 : decode cX9_gatherAsked 15 = .ok (.if_icmp .ge 84, 3) := by decide +kernel
theorem dX9_gatherAsked_18 : decode cX9_gatherAsked 18 = .ok (.aload_n 0, 1) := by decide +kernel
theorem dX9_gatherAsked_19 : decode cX9_gatherAsked 19 = .ok (.aload_n 0, 1) := by decide +kernel
theorem dX9_gatherAsked_20 : decode cX9_gatherAsked 20 = .ok (.getfield 37, 3) := by decide +kernel
theorem dX9_gatherAsked_23 : decode cX9_gatherAsked 23 = .ok (.iload_n 2, 1) := by decide +kernel
theorem dX9_gatherAsked_24 : decode cX9_gatherAsked 24 = .ok (.aaload, 1) := by decide +kernel
theorem dX9_gatherAsked_25 : decode cX9_gatherAsked 25 = .ok (.aload_n 1, 1) := by decide +kernel
theorem dX9_gatherAsked_26 : decode cX9_gatherAsked 26 = .ok (.getfield 131, 3) := by decide +kernel
theorem dX9_gatherAsked_29 : decode cX9_gatherAsked 29 = .ok (.invokevirtual 231, 3) := by decide +kernel
theorem dX9_gatherAsked_32 : decode cX9_gatherAsked 32 = .ok (.iconst 0, 1) := by decide +kernel
theorem dX9_gatherAsked_33 : decode cX9_gatherAsked 33 = .ok (.istore_n 3, 1) := by decide +kernel
theorem dX9_gatherAsked_34 : decode cX9_gatherAsked 34 = .ok (.iload_n 3, 1) := by decide +kernel
theorem dX9_gatherAsked_35 : decode cX9_gatherAsked 35 = .ok (.aload_n 0, 1) := by decide +kernel
theorem dX9_gatherAsked_36 : decode cX9_gatherAsked 36 = .ok (.getfield 61, 3) := by decide +kernel
theorem dX9_gatherAsked_39 : decode cX9_gatherAsked 39 = .ok (.if_icmp .ge 54, 3) := by decide +kernel
theorem dX9_gatherAsked_42 : decode cX9_gatherAsked 42 = .ok (.aload_n 0, 1) := by decide +kernel
theorem dX9_gatherAsked_43 : decode cX9_gatherAsked 43 = .ok (.getfield 25, 3) := by decide +kernel
theorem dX9_gatherAsked_46 : decode cX9_gatherAsked 46 = .ok (.aload_n 0, 1) := by decide +kernel
theorem dX9_gatherAsked_47 : decode cX9_gatherAsked 47 = .ok (.getfield 58, 3) := by decide +kernel
theorem dX9_gatherAsked_50 : decode cX9_gatherAsked 50 = .ok (.iload_n 3, 1) := by decide +kernel
theorem dX9_gatherAsked_51 : decode cX9_gatherAsked 51 = .ok (.iaload, 1) := by decide +kernel
theorem dX9_gatherAsked_52 : decode cX9_gatherAsked 52 = .ok (.aaload, 1) := by decide +kernel
theorem dX9_gatherAsked_53 : decode cX9_gatherAsked 53 = .ok (.getfield 166, 3) := by decide +kernel
theorem dX9_gatherAsked_56 : decode cX9_gatherAsked 56 = .ok (.astore 4, 2) := by decide +kernel
theorem dX9_gatherAsked_58 : decode cX9_gatherAsked 58 = .ok (.aload 4, 2) := by decide +kernel
theorem dX9_gatherAsked_60 : decode cX9_gatherAsked 60 = .ok (.aload_n 1, 1) := by decide +kernel
theorem dX9_gatherAsked_61 : decode cX9_gatherAsked 61 = .ok (.if_acmp .eq 12, 3) := by decide +kernel
theorem dX9_gatherAsked_64 : decode cX9_gatherAsked 64 = .ok (.aload 4, 2) := by decide +kernel
theorem dX9_gatherAsked_66 : decode cX9_gatherAsked 66 = .ok (.aload_n 1, 1) := by decide +kernel
theorem dX9_gatherAsked_67 : decode cX9_gatherAsked 67 = .ok (.getfield 134, 3) := by decide +kernel
theorem dX9_gatherAsked_70 : decode cX9_gatherAsked 70 = .ok (.if_acmp .ne 17, 3) := by decide +kernel
theorem dX9_gatherAsked_73 : decode cX9_gatherAsked 73 = .ok (.aload_n 0, 1) := by decide +kernel
theorem dX9_gatherAsked_74 : decode cX9_gatherAsked 74 = .ok (.getfield 73, 3) := by decide +kernel
theorem dX9_gatherAsked_77 : decode cX9_gatherAsked 77 = .ok (.iload_n 2, 1) := by decide +kernel
theorem dX9_gatherAsked_78 : decode cX9_gatherAsked 78 = .ok (.aload_n 0, 1) := by decide +kernel
theorem dX9_gatherAsked_79 : decode cX9_gatherAsked 79 = .ok (.getfield 58, 3) := by decide +kernel
theorem dX9_gatherAsked_82 : decode cX9_gatherAsked 82 = .ok (.iload_n 3, 1) := by decide +kernel
theorem dX9_gatherAsked_83 : decode cX9_gatherAsked 83 = .ok (.iaload, 1) := by decide +kernel
theorem dX9_gatherAsked_84 : decode cX9_gatherAsked 84 = .ok (.invokevirtual 340, 3) := by decide +kernel
theorem dX9_gatherAsked_87 : decode cX9_gatherAsked 87 = .ok (.iinc 3 1, 3) := by decide +kernel
theorem dX9_gatherAsked_90 : decode cX9_gatherAsked 90 = .ok (.goto (-56), 3) := by decide +kernel
theorem dX9_gatherAsked_93 : decode cX9_gatherAsked 93 = .ok (.iinc 2 1, 3) := by decide +kernel
theorem dX9_gatherAsked_96 : decode cX9_gatherAsked 96 = .ok (.goto (-86), 3) := by decide +kernel
theorem dX9_gatherAsked_99 : decode cX9_gatherAsked 99 = .ok (.return_, 1) := by decide +kernel
theorem dX9_asked_0 : decode cX9_asked 0 = .ok (.aload_n 0, 1) := by decide +kernel
theorem dX9_asked_1 : decode cX9_asked 1 = .ok (.iload_n 1, 1) := by decide +kernel
theorem dX9_asked_2 : decode cX9_asked 2 = .ok (.invokevirtual 106, 3) := by decide +kernel
theorem dX9_asked_5 : decode cX9_asked 5 = .ok (.astore_n 3, 1) := by decide +kernel
theorem dX9_asked_6 : decode cX9_asked 6 = .ok (.aload_n 3, 1) := by decide +kernel
theorem dX9_asked_7 : decode cX9_asked 7 = .ok (.ifnonnull 5, 3) := by decide +kernel
theorem dX9_asked_10 : decode cX9_asked 10 = .ok (.iconst (-1), 1) := by decide +kernel
theorem dX9_asked_11 : decode cX9_asked 11 = .ok (.ireturn, 1) := by decide +kernel
theorem dX9_asked_12 : decode cX9_asked 12 = .ok (.aload_n 0, 1) := by decide +kernel
theorem dX9_asked_13 : decode cX9_asked 13 = .ok (.aload_n 3, 1) := by decide +kernel
theorem dX9_asked_14 : decode cX9_asked 14 = .ok (.invokevirtual 256, 3) := by decide +kernel
theorem dX9_asked_17 : decode cX9_asked 17 = .ok (.iload_n 2, 1) := by decide +kernel
theorem dX9_asked_18 : decode cX9_asked 18 = .ok (.iconst (-1), 1) := by decide +kernel
theorem dX9_asked_19 : decode cX9_asked 19 = .ok (.if_icmp .ne 11, 3) := by decide +kernel
theorem dX9_asked_22 : decode cX9_asked 22 = .ok (.aload_n 0, 1) := by decide +kernel
theorem dX9_asked_23 : decode cX9_asked 23 = .ok (.getfield 73, 3) := by decide +kernel
theorem dX9_asked_26 : decode cX9_asked 26 = .ok (.getfield 259, 3) := by decide +kernel
theorem dX9_asked_29 : decode cX9_asked 29 = .ok (.ireturn, 1) := by decide +kernel
theorem dX9_asked_30 : decode cX9_asked 30 = .ok (.iload_n 2, 1) := by decide +kernel
theorem dX9_asked_31 : decode cX9_asked 31 = .ok (.iconst 0, 1) := by decide +kernel
theorem dX9_asked_32 : decode cX9_asked 32 = .ok (.aload_n 0, 1) := by decide +kernel
theorem dX9_asked_33 : decode cX9_asked 33 = .ok (.getfield 73, 3) := by decide +kernel
theorem dX9_asked_36 : decode cX9_asked 36 = .ok (.getfield 259, 3) := by decide +kernel
theorem dX9_asked_39 : decode cX9_asked 39 = .ok (.iconst 1, 1) := by decide +kernel
theorem dX9_asked_40 : decode cX9_asked 40 = .ok (.isub, 1) := by decide +kernel
theorem dX9_asked_41 : decode cX9_asked 41 = .ok (.invokestatic 95, 3) := by decide +kernel
theorem dX9_asked_44 : decode cX9_asked 44 = .ok (.ifCond .eq 28, 3) := by decide +kernel
theorem dX9_asked_47 : decode cX9_asked 47 = .ok (.bipush 100, 2) := by decide +kernel
theorem dX9_asked_49 : decode cX9_asked 49 = .ok (.aload_n 0, 1) := by decide +kernel
theorem dX9_asked_50 : decode cX9_asked 50 = .ok (.getfield 73, 3) := by decide +kernel
theorem dX9_asked_53 : decode cX9_asked 53 = .ok (.getfield 260, 3) := by decide +kernel
theorem dX9_asked_56 : decode cX9_asked 56 = .ok (.iload_n 2, 1) := by decide +kernel
theorem dX9_asked_57 : decode cX9_asked 57 = .ok (.iaload, 1) := by decide +kernel
theorem dX9_asked_58 : decode cX9_asked 58 = .ok (.imul, 1) := by decide +kernel
theorem dX9_asked_59 : decode cX9_asked 59 = .ok (.aload_n 0, 1) := by decide +kernel
theorem dX9_asked_60 : decode cX9_asked 60 = .ok (.getfield 73, 3) := by decide +kernel
theorem dX9_asked_63 : decode cX9_asked 63 = .ok (.getfield 262, 3) := by decide +kernel
theorem dX9_asked_66 : decode cX9_asked 66 = .ok (.iload_n 2, 1) := by decide +kernel
theorem dX9_asked_67 : decode cX9_asked 67 = .ok (.iaload, 1) := by decide +kernel
theorem dX9_asked_68 : decode cX9_asked 68 = .ok (.iadd, 1) := by decide +kernel
theorem dX9_asked_69 : decode cX9_asked 69 = .ok (.goto 5, 3) := by decide +kernel
theorem dX9_asked_72 : decode cX9_asked 72 = .ok (.bipush (-6), 2) := by decide +kernel
theorem dX9_asked_74 : decode cX9_asked 74 = .ok (.ireturn, 1) := by decide +kernel
theorem dX0_findClashes_0 : decode cX0_findClashes 0 = .ok (.iconst 0, 1) := by decide +kernel
theorem dX0_findClashes_1 : decode cX0_findClashes 1 = .ok (.istore_n 2, 1) := by decide +kernel
theorem dX0_findClashes_2 : decode cX0_findClashes 2 = .ok (.iload_n 2, 1) := by decide +kernel
theorem dX0_findClashes_3 : decode cX0_findClashes 3 = .ok (.aload_n 0, 1) := by decide +kernel
theorem dX0_findClashes_4 : decode cX0_findClashes 4 = .ok (.getfield 16, 3) := by decide +kernel
theorem dX0_findClashes_7 : decode cX0_findClashes 7 = .ok (.if_icmp .ge 86, 3) := by decide +kernel
theorem dX0_findClashes_10 : decode cX0_findClashes 10 = .ok (.iconst 0, 1) := by decide +kernel
theorem dX0_findClashes_11 : decode cX0_findClashes 11 = .ok (.istore_n 3, 1) := by decide +kernel
theorem dX0_findClashes_12 : decode cX0_findClashes 12 = .ok (.iconst 0, 1) := by decide +kernel
theorem dX0_findClashes_13 : decode cX0_findClashes 13 = .ok (.istore 4, 2) := by decide +kernel
theorem dX0_findClashes_15 : decode cX0_findClashes 15 = .ok (.iload 4, 2) := by decide +kernel
theorem dX0_findClashes_17 : decode cX0_findClashes 17 = .ok (.aload_n 0, 1) := by decide +kernel
theorem dX0_findClashes_18 : decode cX0_findClashes 18 = .ok (.getfield 16, 3) := by decide +kernel
theorem dX0_findClashes_21 : decode cX0_findClashes 21 = .ok (.if_icmp .ge 52, 3) := by decide +kernel
theorem dX0_findClashes_24 : decode cX0_findClashes 24 = .ok (.iload 4, 2) := by decide +kernel
theorem dX0_findClashes_26 : decode cX0_findClashes 26 = .ok (.iload_n 2, 1) := by decide +kernel
theorem dX0_findClashes_27 : decode cX0_findClashes 27 = .ok (.if_icmp .eq 40, 3) := by decide +kernel
theorem dX0_findClashes_30 : decode cX0_findClashes 30 = .ok (.aload_n 1, 1) := by decide +kernel
theorem dX0_findClashes_31 : decode cX0_findClashes 31 = .ok (.aload_n 0, 1) := by decide +kernel
theorem dX0_findClashes_32 : decode cX0_findClashes 32 = .ok (.getfield 13, 3) := by decide +kernel
theorem dX0_findClashes_35 : decode cX0_findClashes 35 = .ok (.iload_n 2, 1) := by decide +kernel
theorem dX0_findClashes_36 : decode cX0_findClashes 36 = .ok (.iaload, 1) := by decide +kernel
theorem dX0_findClashes_37 : decode cX0_findClashes 37 = .ok (.aaload, 1) := by decide +kernel
theorem dX0_findClashes_38 : decode cX0_findClashes 38 = .ok (.aload_n 1, 1) := by decide +kernel
theorem dX0_findClashes_39 : decode cX0_findClashes 39 = .ok (.aload_n 0, 1) := by decide +kernel
theorem dX0_findClashes_40 : decode cX0_findClashes 40 = .ok (.getfield 13, 3) := by decide +kernel
theorem dX0_findClashes_43 : decode cX0_findClashes 43 = .ok (.iload 4, 2) := by decide +kernel
theorem dX0_findClashes_45 : decode cX0_findClashes 45 = .ok (.iaload, 1) := by decide +kernel
theorem dX0_findClashes_46 : decode cX0_findClashes 46 = .ok (.aaload, 1) := by decide +kernel
theorem dX0_findClashes_47 : decode cX0_findClashes 47 = .ok (.invokevirtual 39, 3) := by decide +kernel
theorem dX0_findClashes_50 : decode cX0_findClashes 50 = .ok (.ifCond .eq 17, 3) := by decide +kernel
theorem dX0_findClashes_53 : decode cX0_findClashes 53 = .ok (.iload_n 3, 1) := by decide +kernel
theorem dX0_findClashes_54 : decode cX0_findClashes 54 = .ok (.iconst 1, 1) := by decide +kernel
theorem dX0_findClashes_55 : decode cX0_findClashes 55 = .ok (.aload_n 0, 1) := by decide +kernel
theorem dX0_findClashes_56 : decode cX0_findClashes 56 = .ok (.getfield 16, 3) := by decide +kernel
theorem dX0_findClashes_59 : decode cX0_findClashes 59 = .ok (.iconst 1, 1) := by decide +kernel
theorem dX0_findClashes_60 : decode cX0_findClashes 60 = .ok (.isub, 1) := by decide +kernel
theorem dX0_findClashes_61 : decode cX0_findClashes 61 = .ok (.iload 4, 2) := by decide +kernel
theorem dX0_findClashes_63 : decode cX0_findClashes 63 = .ok (.isub, 1) := by decide +kernel
theorem dX0_findClashes_64 : decode cX0_findClashes 64 = .ok (.ishl, 1) := by decide +kernel
theorem dX0_findClashes_65 : decode cX0_findClashes 65 = .ok (.ior, 1) := by decide +kernel
theorem dX0_findClashes_66 : decode cX0_findClashes 66 = .ok (.istore_n 3, 1) := by decide +kernel
theorem dX0_findClashes_67 : decode cX0_findClashes 67 = .ok (.iinc 4 1, 3) := by decide +kernel
theorem dX0_findClashes_70 : decode cX0_findClashes 70 = .ok (.goto (-55), 3) := by decide +kernel
theorem dX0_findClashes_73 : decode cX0_findClashes 73 = .ok (.aload_n 0, 1) := by decide +kernel
theorem dX0_findClashes_74 : decode cX0_findClashes 74 = .ok (.getfield 20, 3) := by decide +kernel
theorem dX0_findClashes_77 : decode cX0_findClashes 77 = .ok (.aload_n 0, 1) := by decide +kernel
theorem dX0_findClashes_78 : decode cX0_findClashes 78 = .ok (.getfield 16, 3) := by decide +kernel
theorem dX0_findClashes_81 : decode cX0_findClashes 81 = .ok (.iconst 1, 1) := by decide +kernel
theorem dX0_findClashes_82 : decode cX0_findClashes 82 = .ok (.isub, 1) := by decide +kernel
theorem dX0_findClashes_83 : decode cX0_findClashes 83 = .ok (.iload_n 2, 1) := by decide +kernel
theorem dX0_findClashes_84 : decode cX0_findClashes 84 = .ok (.isub, 1) := by decide +kernel
theorem dX0_findClashes_85 : decode cX0_findClashes 85 = .ok (.iload_n 3, 1) := by decide +kernel
theorem dX0_findClashes_86 : decode cX0_findClashes 86 = .ok (.iastore, 1) := by decide +kernel
theorem dX0_findClashes_87 : decode cX0_findClashes 87 = .ok (.iinc 2 1, 3) := by decide +kernel
theorem dX0_findClashes_90 : decode cX0_findClashes 90 = .ok (.goto (-88), 3) := by decide +kernel
theorem dX0_findClashes_93 : decode cX0_findClashes 93 = .ok (.return_, 1) := by decide +kernel
theorem dX0_fitsOneSheet_0 : decode cX0_fitsOneSheet 0 = .ok (.iconst 0, 1) := by decide +kernel
theorem dX0_fitsOneSheet_1 : decode cX0_fitsOneSheet 1 = .ok (.istore_n 2, 1) := by decide +kernel
theorem dX0_fitsOneSheet_2 : decode cX0_fitsOneSheet 2 = .ok (.iload_n 2, 1) := by decide +kernel
theorem dX0_fitsOneSheet_3 : decode cX0_fitsOneSheet 3 = .ok (.aload_n 0, 1) := by decide +kernel
theorem dX0_fitsOneSheet_4 : decode cX0_fitsOneSheet 4 = .ok (.getfield 16, 3) := by decide +kernel
theorem dX0_fitsOneSheet_7 : decode cX0_fitsOneSheet 7 = .ok (.if_icmp .ge 30, 3) := by decide +kernel
theorem dX0_fitsOneSheet_10 : decode cX0_fitsOneSheet 10 = .ok (.iload_n 1, 1) := by decide +kernel
theorem dX0_fitsOneSheet_11 : decode cX0_fitsOneSheet 11 = .ok (.iload_n 2, 1) := by decide +kernel
theorem dX0_fitsOneSheet_12 : decode cX0_fitsOneSheet 12 = .ok (.invokestatic 52, 3) := by decide +kernel
theorem dX0_fitsOneSheet_15 : decode cX0_fitsOneSheet 15 = .ok (.ifCond .eq 16, 3) := by decide +kernel
theorem dX0_fitsOneSheet_18 : decode cX0_fitsOneSheet 18 = .ok (.aload_n 0, 1) := by decide +kernel
theorem dX0_fitsOneSheet_19 : decode cX0_fitsOneSheet 19 = .ok (.getfield 20, 3) := by decide +kernel
theorem dX0_fitsOneSheet_22 : decode cX0_fitsOneSheet 22 = .ok (.iload_n 2, 1) := by decide +kernel
theorem dX0_fitsOneSheet_23 : decode cX0_fitsOneSheet 23 = .ok (.iaload, 1) := by decide +kernel
theorem dX0_fitsOneSheet_24 : decode cX0_fitsOneSheet 24 = .ok (.iload_n 1, 1) := by decide +kernel
theorem dX0_fitsOneSheet_25 : decode cX0_fitsOneSheet 25 = .ok (.iand, 1) := by decide +kernel
theorem dX0_fitsOneSheet_26 : decode cX0_fitsOneSheet 26 = .ok (.ifCond .eq 5, 3) := by decide +kernel
theorem dX0_fitsOneSheet_29 : decode cX0_fitsOneSheet 29 = .ok (.iconst 0, 1) := by decide +kernel
theorem dX0_fitsOneSheet_30 : decode cX0_fitsOneSheet 30 = .ok (.ireturn, 1) := by decide +kernel
theorem dX0_fitsOneSheet_31 : decode cX0_fitsOneSheet 31 = .ok (.iinc 2 1, 3) := by decide +kernel
theorem dX0_fitsOneSheet_34 : decode cX0_fitsOneSheet 34 = .ok (.goto (-32), 3) := by decide +kernel
theorem dX0_fitsOneSheet_37 : decode cX0_fitsOneSheet 37 = .ok (.iconst 1, 1) := by decide +kernel
theorem dX0_fitsOneSheet_38 : decode cX0_fitsOneSheet 38 = .ok (.ireturn, 1) := by decide +kernel
theorem dX0_leastSheets_0 : decode cX0_leastSheets 0 = .ok (.bipush 9, 2) := by decide +kernel
theorem dX0_leastSheets_2 : decode cX0_leastSheets 2 = .ok (.istore_n 2, 1) := by decide +kernel
theorem dX0_leastSheets_3 : decode cX0_leastSheets 3 = .ok (.iload_n 1, 1) := by decide +kernel
theorem dX0_leastSheets_4 : decode cX0_leastSheets 4 = .ok (.iconst 1, 1) := by decide +kernel
theorem dX0_leastSheets_5 : decode cX0_leastSheets 5 = .ok (.isub, 1) := by decide +kernel
theorem dX0_leastSheets_6 : decode cX0_leastSheets 6 = .ok (.iload_n 1, 1) := by decide +kernel
theorem dX0_leastSheets_7 : decode cX0_leastSheets 7 = .ok (.iand, 1) := by decide +kernel
theorem dX0_leastSheets_8 : decode cX0_leastSheets 8 = .ok (.istore_n 3, 1) := by decide +kernel
theorem dX0_leastSheets_9 : decode cX0_leastSheets 9 = .ok (.iload_n 3, 1) := by decide +kernel
theorem dX0_leastSheets_10 : decode cX0_leastSheets 10 = .ok (.ifCond .le 43, 3) := by decide +kernel
theorem dX0_leastSheets_13 : decode cX0_leastSheets 13 = .ok (.aload_n 0, 1) := by decide +kernel
theorem dX0_leastSheets_14 : decode cX0_leastSheets 14 = .ok (.getfield 23, 3) := by decide +kernel
theorem dX0_leastSheets_17 : decode cX0_leastSheets 17 = .ok (.iload_n 3, 1) := by decide +kernel
theorem dX0_leastSheets_18 : decode cX0_leastSheets 18 = .ok (.iaload, 1) := by decide +kernel
theorem dX0_leastSheets_19 : decode cX0_leastSheets 19 = .ok (.iconst 1, 1) := by decide +kernel
theorem dX0_leastSheets_20 : decode cX0_leastSheets 20 = .ok (.if_icmp .ne 24, 3) := by decide +kernel
theorem dX0_leastSheets_23 : decode cX0_leastSheets 23 = .ok (.aload_n 0, 1) := by decide +kernel
theorem dX0_leastSheets_24 : decode cX0_leastSheets 24 = .ok (.getfield 23, 3) := by decide +kernel
theorem dX0_leastSheets_27 : decode cX0_leastSheets 27 = .ok (.iload_n 1, 1) := by decide +kernel
theorem dX0_leastSheets_28 : decode cX0_leastSheets 28 = .ok (.iload_n 3, 1) := by decide +kernel
theorem dX0_leastSheets_29 : decode cX0_leastSheets 29 = .ok (.ixor, 1) := by decide +kernel
theorem dX0_leastSheets_30 : decode cX0_leastSheets 30 = .ok (.iaload, 1) := by decide +kernel
theorem dX0_leastSheets_31 : decode cX0_leastSheets 31 = .ok (.iload_n 2, 1) := by decide +kernel
theorem dX0_leastSheets_32 : decode cX0_leastSheets 32 = .ok (.if_icmp .ge 12, 3) := by decide +kernel
theorem dX0_leastSheets_35 : decode cX0_leastSheets 35 = .ok (.aload_n 0, 1) := by decide +kernel
theorem dX0_leastSheets_36 : decode cX0_leastSheets 36 = .ok (.getfield 23, 3) := by decide +kernel
theorem dX0_leastSheets_39 : decode cX0_leastSheets 39 = .ok (.iload_n 1, 1) := by decide +kernel
theorem dX0_leastSheets_40 : decode cX0_leastSheets 40 = .ok (.iload_n 3, 1) := by decide +kernel
theorem dX0_leastSheets_41 : decode cX0_leastSheets 41 = .ok (.ixor, 1) := by decide +kernel
theorem dX0_leastSheets_42 : decode cX0_leastSheets 42 = .ok (.iaload, 1) := by decide +kernel
theorem dX0_leastSheets_43 : decode cX0_leastSheets 43 = .ok (.istore_n 2, 1) := by decide +kernel
theorem dX0_leastSheets_44 : decode cX0_leastSheets 44 = .ok (.iload_n 3, 1) := by decide +kernel
theorem dX0_leastSheets_45 : decode cX0_leastSheets 45 = .ok (.iconst 1, 1) := by decide +kernel
theorem dX0_leastSheets_46 : decode cX0_leastSheets 46 = .ok (.isub, 1) := by decide +kernel
theorem dX0_leastSheets_47 : decode cX0_leastSheets 47 = .ok (.iload_n 1, 1) := by decide +kernel
theorem dX0_leastSheets_48 : decode cX0_leastSheets 48 = .ok (.iand, 1) := by decide +kernel
theorem dX0_leastSheets_49 : decode cX0_leastSheets 49 = .ok (.istore_n 3, 1) := by decide +kernel
theorem dX0_leastSheets_50 : decode cX0_leastSheets 50 = .ok (.goto (-41), 3) := by decide +kernel
theorem dX0_leastSheets_53 : decode cX0_leastSheets 53 = .ok (.iload_n 2, 1) := by decide +kernel
theorem dX0_leastSheets_54 : decode cX0_leastSheets 54 = .ok (.iconst 1, 1) := by decide +kernel
theorem dX0_leastSheets_55 : decode cX0_leastSheets 55 = .ok (.iadd, 1) := by decide +kernel
theorem dX0_leastSheets_56 : decode cX0_leastSheets 56 = .ok (.ireturn, 1) := by decide +kernel
theorem dX0_countSheets_0 : decode cX0_countSheets 0 = .ok (.aload_n 0, 1) := by decide +kernel
theorem dX0_countSheets_1 : decode cX0_countSheets 1 = .ok (.getfield 23, 3) := by decide +kernel
theorem dX0_countSheets_4 : decode cX0_countSheets 4 = .ok (.iconst 0, 1) := by decide +kernel
theorem dX0_countSheets_5 : decode cX0_countSheets 5 = .ok (.iconst 0, 1) := by decide +kernel
theorem dX0_countSheets_6 : decode cX0_countSheets 6 = .ok (.iastore, 1) := by decide +kernel
theorem dX0_countSheets_7 : decode cX0_countSheets 7 = .ok (.iconst 1, 1) := by decide +kernel
theorem dX0_countSheets_8 : decode cX0_countSheets 8 = .ok (.istore_n 1, 1) := by decide +kernel
theorem dX0_countSheets_9 : decode cX0_countSheets 9 = .ok (.iload_n 1, 1) := by decide +kernel
theorem dX0_countSheets_10 : decode cX0_countSheets 10 = .ok (.iconst 1, 1) := by decide +kernel
theorem dX0_countSheets_11 : decode cX0_countSheets 11 = .ok (.aload_n 0, 1) := by decide +kernel
theorem dX0_countSheets_12 : decode cX0_countSheets 12 = .ok (.getfield 16, 3) := by decide +kernel
theorem dX0_countSheets_15 : decode cX0_countSheets 15 = .ok (.ishl, 1) := by decide +kernel
theorem dX0_countSheets_16 : decode cX0_countSheets 16 = .ok (.if_icmp .ge 32, 3) := by decide +kernel
theorem dX0_countSheets_19 : decode cX0_countSheets 19 = .ok (.aload_n 0, 1) := by decide +kernel
theorem dX0_countSheets_20 : decode cX0_countSheets 20 = .ok (.getfield 23, 3) := by decide +kernel
theorem dX0_countSheets_23 : decode cX0_countSheets 23 = .ok (.iload_n 1, 1) := by decide +kernel
theorem dX0_countSheets_24 : decode cX0_countSheets 24 = .ok (.aload_n 0, 1) := by decide +kernel
theorem dX0_countSheets_25 : decode cX0_countSheets 25 = .ok (.iload_n 1, 1) := by decide +kernel
theorem dX0_countSheets_26 : decode cX0_countSheets 26 = .ok (.invokevirtual 45, 3) := by decide +kernel
theorem dX0_countSheets_29 : decode cX0_countSheets 29 = .ok (.ifCond .eq 7, 3) := by decide +kernel
theorem dX0_countSheets_32 : decode cX0_countSheets 32 = .ok (.iconst 1, 1) := by decide +kernel
theorem dX0_countSheets_33 : decode cX0_countSheets 33 = .ok (.goto 8, 3) := by decide +kernel
theorem dX0_countSheets_36 : decode cX0_countSheets 36 = .ok (.aload_n 0, 1) := by decide +kernel
theorem dX0_countSheets_37 : decode cX0_countSheets 37 = .ok (.iload_n 1, 1) := by decide +kernel
theorem dX0_countSheets_38 : decode cX0_countSheets 38 = .ok (.invokevirtual 49, 3) := by decide +kernel
theorem dX0_countSheets_41 : decode cX0_countSheets 41 = .ok (.iastore, 1) := by decide +kernel
theorem dX0_countSheets_42 : decode cX0_countSheets 42 = .ok (.iinc 1 1, 3) := by decide +kernel
theorem dX0_countSheets_45 : decode cX0_countSheets 45 = .ok (.goto (-36), 3) := by decide +kernel
theorem dX0_countSheets_48 : decode cX0_countSheets 48 = .ok (.return_, 1) := by decide +kernel
theorem dJ6_bitCount_0f7a4_0 : decode cJ6_bitCount_0f7a4 0 = .ok (.iload_n 0, 1) := by decide +kernel
theorem dJ6_bitCount_0f7a4_1 : decode cJ6_bitCount_0f7a4 1 = .ok (.iload_n 0, 1) := by decide +kernel
theorem dJ6_bitCount_0f7a4_2 : decode cJ6_bitCount_0f7a4 2 = .ok (.iconst 1, 1) := by decide +kernel
theorem dJ6_bitCount_0f7a4_3 : decode cJ6_bitCount_0f7a4 3 = .ok (.iushr, 1) := by decide +kernel
theorem dJ6_bitCount_0f7a4_4 : decode cJ6_bitCount_0f7a4 4 = .ok (.ldc_w 265, 3) := by decide +kernel
theorem dJ6_bitCount_0f7a4_7 : decode cJ6_bitCount_0f7a4 7 = .ok (.iand, 1) := by decide +kernel
theorem dJ6_bitCount_0f7a4_8 : decode cJ6_bitCount_0f7a4 8 = .ok (.isub, 1) := by decide +kernel
theorem dJ6_bitCount_0f7a4_9 : decode cJ6_bitCount_0f7a4 9 = .ok (.istore_n 0, 1) := by decide +kernel
theorem dJ6_bitCount_0f7a4_10 : decode cJ6_bitCount_0f7a4 10 = .ok (.iload_n 0, 1) := by decide +kernel
theorem dJ6_bitCount_0f7a4_11 : decode cJ6_bitCount_0f7a4 11 = .ok (.ldc_w 266, 3) := by decide +kernel
theorem dJ6_bitCount_0f7a4_14 : decode cJ6_bitCount_0f7a4 14 = .ok (.iand, 1) := by decide +kernel
theorem dJ6_bitCount_0f7a4_15 : decode cJ6_bitCount_0f7a4 15 = .ok (.iload_n 0, 1) := by decide +kernel
theorem dJ6_bitCount_0f7a4_16 : decode cJ6_bitCount_0f7a4 16 = .ok (.iconst 2, 1) := by decide +kernel
theorem dJ6_bitCount_0f7a4_17 : decode cJ6_bitCount_0f7a4 17 = .ok (.iushr, 1) := by decide +kernel
theorem dJ6_bitCount_0f7a4_18 : decode cJ6_bitCount_0f7a4 18 = .ok (.ldc_w 266, 3) := by decide +kernel
theorem dJ6_bitCount_0f7a4_21 : decode cJ6_bitCount_0f7a4 21 = .ok (.iand, 1) := by decide +kernel
theorem dJ6_bitCount_0f7a4_22 : decode cJ6_bitCount_0f7a4 22 = .ok (.iadd, 1) := by decide +kernel
theorem dJ6_bitCount_0f7a4_23 : decode cJ6_bitCount_0f7a4 23 = .ok (.istore_n 0, 1) := by decide +kernel
theorem dJ6_bitCount_0f7a4_24 : decode cJ6_bitCount_0f7a4 24 = .ok (.iload_n 0, 1) := by decide +kernel
theorem dJ6_bitCount_0f7a4_25 : decode cJ6_bitCount_0f7a4 25 = .ok (.iload_n 0, 1) := by decide +kernel
theorem dJ6_bitCount_0f7a4_26 : decode cJ6_bitCount_0f7a4 26 = .ok (.iconst 4, 1) := by decide +kernel
theorem dJ6_bitCount_0f7a4_27 : decode cJ6_bitCount_0f7a4 27 = .ok (.iushr, 1) := by decide +kernel
theorem dJ6_bitCount_0f7a4_28 : decode cJ6_bitCount_0f7a4 28 = .ok (.iadd, 1) := by decide +kernel
theorem dJ6_bitCount_0f7a4_29 : decode cJ6_bitCount_0f7a4 29 = .ok (.ldc_w 267, 3) := by decide +kernel
theorem dJ6_bitCount_0f7a4_32 : decode cJ6_bitCount_0f7a4 32 = .ok (.iand, 1) := by decide +kernel
theorem dJ6_bitCount_0f7a4_33 : decode cJ6_bitCount_0f7a4 33 = .ok (.istore_n 0, 1) := by decide +kernel
theorem dJ6_bitCount_0f7a4_34 : decode cJ6_bitCount_0f7a4 34 = .ok (.iload_n 0, 1) := by decide +kernel
theorem dJ6_bitCount_0f7a4_35 : decode cJ6_bitCount_0f7a4 35 = .ok (.iload_n 0, 1) := by decide +kernel
theorem dJ6_bitCount_0f7a4_36 : decode cJ6_bitCount_0f7a4 36 = .ok (.bipush 8, 2) := by decide +kernel
theorem dJ6_bitCount_0f7a4_38 : decode cJ6_bitCount_0f7a4 38 = .ok (.iushr, 1) := by decide +kernel
theorem dJ6_bitCount_0f7a4_39 : decode cJ6_bitCount_0f7a4 39 = .ok (.iadd, 1) := by decide +kernel
theorem dJ6_bitCount_0f7a4_40 : decode cJ6_bitCount_0f7a4 40 = .ok (.istore_n 0, 1) := by decide +kernel
theorem dJ6_bitCount_0f7a4_41 : decode cJ6_bitCount_0f7a4 41 = .ok (.iload_n 0, 1) := by decide +kernel
theorem dJ6_bitCount_0f7a4_42 : decode cJ6_bitCount_0f7a4 42 = .ok (.iload_n 0, 1) := by decide +kernel
theorem dJ6_bitCount_0f7a4_43 : decode cJ6_bitCount_0f7a4 43 = .ok (.bipush 16, 2) := by decide +kernel
theorem dJ6_bitCount_0f7a4_45 : decode cJ6_bitCount_0f7a4 45 = .ok (.iushr, 1) := by decide +kernel
theorem dJ6_bitCount_0f7a4_46 : decode cJ6_bitCount_0f7a4 46 = .ok (.iadd, 1) := by decide +kernel
theorem dJ6_bitCount_0f7a4_47 : decode cJ6_bitCount_0f7a4 47 = .ok (.istore_n 0, 1) := by decide +kernel
theorem dJ6_bitCount_0f7a4_48 : decode cJ6_bitCount_0f7a4 48 = .ok (.iload_n 0, 1) := by decide +kernel
theorem dJ6_bitCount_0f7a4_49 : decode cJ6_bitCount_0f7a4 49 = .ok (.bipush 63, 2) := by decide +kernel
theorem dJ6_bitCount_0f7a4_51 : decode cJ6_bitCount_0f7a4 51 = .ok (.iand, 1) := by decide +kernel
theorem dJ6_bitCount_0f7a4_52 : decode cJ6_bitCount_0f7a4 52 = .ok (.ireturn, 1) := by decide +kernel
theorem dX0_bestSet_0 : decode cX0_bestSet 0 = .ok (.aload_n 0, 1) := by decide +kernel
theorem dX0_bestSet_1 : decode cX0_bestSet 1 = .ok (.aload_n 1, 1) := by decide +kernel
theorem dX0_bestSet_2 : decode cX0_bestSet 2 = .ok (.invokevirtual 26, 3) := by decide +kernel
theorem dX0_bestSet_5 : decode cX0_bestSet 5 = .ok (.aload_n 0, 1) := by decide +kernel
theorem dX0_bestSet_6 : decode cX0_bestSet 6 = .ok (.invokevirtual 30, 3) := by decide +kernel
theorem dX0_bestSet_9 : decode cX0_bestSet 9 = .ok (.iconst 0, 1) := by decide +kernel
theorem dX0_bestSet_10 : decode cX0_bestSet 10 = .ok (.istore_n 3, 1) := by decide +kernel
theorem dX0_bestSet_11 : decode cX0_bestSet 11 = .ok (.iconst 1, 1) := by decide +kernel
theorem dX0_bestSet_12 : decode cX0_bestSet 12 = .ok (.istore 4, 2) := by decide +kernel
theorem dX0_bestSet_14 : decode cX0_bestSet 14 = .ok (.iload 4, 2) := by decide +kernel
theorem dX0_bestSet_16 : decode cX0_bestSet 16 = .ok (.iconst 1, 1) := by decide +kernel
theorem dX0_bestSet_17 : decode cX0_bestSet 17 = .ok (.aload_n 0, 1) := by decide +kernel
theorem dX0_bestSet_18 : decode cX0_bestSet 18 = .ok (.getfield 16, 3) := by decide +kernel
theorem dX0_bestSet_21 : decode cX0_bestSet 21 = .ok (.ishl, 1) := by decide +kernel
theorem dX0_bestSet_22 : decode cX0_bestSet 22 = .ok (.if_icmp .ge 35, 3) := by decide +kernel
theorem dX0_bestSet_25 : decode cX0_bestSet 25 = .ok (.aload_n 0, 1) := by decide +kernel
theorem dX0_bestSet_26 : decode cX0_bestSet 26 = .ok (.getfield 23, 3) := by decide +kernel
theorem dX0_bestSet_29 : decode cX0_bestSet 29 = .ok (.iload 4, 2) := by decide +kernel
theorem dX0_bestSet_31 : decode cX0_bestSet 31 = .ok (.iaload, 1) := by decide +kernel
theorem dX0_bestSet_32 : decode cX0_bestSet 32 = .ok (.iload_n 2, 1) := by decide +kernel
theorem dX0_bestSet_33 : decode cX0_bestSet 33 = .ok (.if_icmp .gt 18, 3) := by decide +kernel
theorem dX0_bestSet_36 : decode cX0_bestSet 36 = .ok (.iload 4, 2) := by decide +kernel
theorem dX0_bestSet_38 : decode cX0_bestSet 38 = .ok (.invokestatic 33, 3) := by decide +kernel
theorem dX0_bestSet_41 : decode cX0_bestSet 41 = .ok (.iload_n 3, 1) := by decide +kernel
theorem dX0_bestSet_42 : decode cX0_bestSet 42 = .ok (.invokestatic 33, 3) := by decide +kernel
theorem dX0_bestSet_45 : decode cX0_bestSet 45 = .ok (.if_icmp .lt 6, 3) := by decide +kernel
theorem dX0_bestSet_48 : decode cX0_bestSet 48 = .ok (.iload 4, 2) := by decide +kernel
theorem dX0_bestSet_50 : decode cX0_bestSet 50 = .ok (.istore_n 3, 1) := by decide +kernel
theorem dX0_bestSet_51 : decode cX0_bestSet 51 = .ok (.iinc 4 1, 3) := by decide +kernel
theorem dX0_bestSet_54 : decode cX0_bestSet 54 = .ok (.goto (-40), 3) := by decide +kernel
theorem dX0_bestSet_57 : decode cX0_bestSet 57 = .ok (.iconst 0, 1) := by decide +kernel
theorem dX0_bestSet_58 : decode cX0_bestSet 58 = .ok (.istore 4, 2) := by decide +kernel
theorem dX0_bestSet_60 : decode cX0_bestSet 60 = .ok (.iconst 0, 1) := by decide +kernel
theorem dX0_bestSet_61 : decode cX0_bestSet 61 = .ok (.istore 5, 2) := by decide +kernel
theorem dX0_bestSet_63 : decode cX0_bestSet 63 = .ok (.iload 5, 2) := by decide +kernel
theorem dX0_bestSet_65 : decode cX0_bestSet 65 = .ok (.aload_n 0, 1) := by decide +kernel
theorem dX0_bestSet_66 : decode cX0_bestSet 66 = .ok (.getfield 16, 3) := by decide +kernel
theorem dX0_bestSet_69 : decode cX0_bestSet 69 = .ok (.if_icmp .ge 30, 3) := by decide +kernel
theorem dX0_bestSet_72 : decode cX0_bestSet 72 = .ok (.iload 4, 2) := by decide +kernel
theorem dX0_bestSet_74 : decode cX0_bestSet 74 = .ok (.iload_n 3, 1) := by decide +kernel
theorem dX0_bestSet_75 : decode cX0_bestSet 75 = .ok (.aload_n 0, 1) := by decide +kernel
theorem dX0_bestSet_76 : decode cX0_bestSet 76 = .ok (.getfield 16, 3) := by decide +kernel
theorem dX0_bestSet_79 : decode cX0_bestSet 79 = .ok (.iconst 1, 1) := by decide +kernel
theorem dX0_bestSet_80 : decode cX0_bestSet 80 = .ok (.isub, 1) := by decide +kernel
theorem dX0_bestSet_81 : decode cX0_bestSet 81 = .ok (.iload 5, 2) := by decide +kernel
theorem dX0_bestSet_83 : decode cX0_bestSet 83 = .ok (.isub, 1) := by decide +kernel
theorem dX0_bestSet_84 : decode cX0_bestSet 84 = .ok (.ishr, 1) := by decide +kernel
theorem dX0_bestSet_85 : decode cX0_bestSet 85 = .ok (.iconst 1, 1) := by decide +kernel
theorem dX0_bestSet_86 : decode cX0_bestSet 86 = .ok (.iand, 1) := by decide +kernel
theorem dX0_bestSet_87 : decode cX0_bestSet 87 = .ok (.iload 5, 2) := by decide +kernel
theorem dX0_bestSet_89 : decode cX0_bestSet 89 = .ok (.ishl, 1) := by decide +kernel
theorem dX0_bestSet_90 : decode cX0_bestSet 90 = .ok (.ior, 1) := by decide +kernel
theorem dX0_bestSet_91 : decode cX0_bestSet 91 = .ok (.istore 4, 2) := by decide +kernel
theorem dX0_bestSet_93 : decode cX0_bestSet 93 = .ok (.iinc 5 1, 3) := by decide +kernel
theorem dX0_bestSet_96 : decode cX0_bestSet 96 = .ok (.goto (-33), 3) := by decide +kernel
theorem dX0_bestSet_99 : decode cX0_bestSet 99 = .ok (.iload 4, 2) := by decide +kernel
theorem dX0_bestSet_101 : decode cX0_bestSet 101 = .ok (.ireturn, 1) := by decide +kernel
theorem dX9_served_0 : decode cX9_served 0 = .ok (.aload_n 0, 1) := by decide +kernel
theorem dX9_served_1 : decode cX9_served 1 = .ok (.iload_n 1, 1) := by decide +kernel
theorem dX9_served_2 : decode cX9_served 2 = .ok (.invokevirtual 106, 3) := by decide +kernel
theorem dX9_served_5 : decode cX9_served 5 = .ok (.astore 4, 2) := by decide +kernel
theorem dX9_served_7 : decode cX9_served 7 = .ok (.aload 4, 2) := by decide +kernel
theorem dX9_served_9 : decode cX9_served 9 = .ok (.ifnonnull 5, 3) := by decide +kernel
theorem dX9_served_12 : decode cX9_served 12 = .ok (.iconst (-1), 1) := by decide +kernel
theorem dX9_served_13 : decode cX9_served 13 = .ok (.ireturn, 1) := by decide +kernel
theorem dX9_served_14 : decode cX9_served 14 = .ok (.iload_n 2, 1) := by decide +kernel
theorem dX9_served_15 : decode cX9_served 15 = .ok (.iconst 1, 1) := by decide +kernel
theorem dX9_served_16 : decode cX9_served 16 = .ok (.iconst 4, 1) := by decide +kernel
theorem dX9_served_17 : decode cX9_served 17 = .ok (.invokestatic 95, 3) := by decide +kernel
theorem dX9_served_20 : decode cX9_served 20 = .ok (.ifCond .eq 12, 3) := by decide +kernel
theorem dX9_served_23 : decode cX9_served 23 = .ok (.iload_n 3, 1) := by decide +kernel
theorem dX9_served_24 : decode cX9_served 24 = .ok (.iconst 0, 1) := by decide +kernel
theorem dX9_served_25 : decode cX9_served 25 = .ok (.iconst 1, 1) := by decide +kernel
theorem dX9_served_26 : decode cX9_served 26 = .ok (.invokestatic 95, 3) := by decide +kernel
theorem dX9_served_29 : decode cX9_served 29 = .ok (.ifCond .ne 6, 3) := by decide +kernel
theorem dX9_served_32 : decode cX9_served 32 = .ok (.bipush (-2), 2) := by decide +kernel
theorem dX9_served_34 : decode cX9_served 34 = .ok (.ireturn, 1) := by decide +kernel
theorem dX9_served_35 : decode cX9_served 35 = .ok (.aload_n 0, 1) := by decide +kernel
theorem dX9_served_36 : decode cX9_served 36 = .ok (.aload 4, 2) := by decide +kernel
theorem dX9_served_38 : decode cX9_served 38 = .ok (.invokevirtual 256, 3) := by decide +kernel
theorem dX9_served_41 : decode cX9_served 41 = .ok (.aload_n 0, 1) := by decide +kernel
theorem dX9_served_42 : decode cX9_served 42 = .ok (.getfield 73, 3) := by decide +kernel
theorem dX9_served_45 : decode cX9_served 45 = .ok (.aload_n 0, 1) := by decide +kernel
theorem dX9_served_46 : decode cX9_served 46 = .ok (.getfield 25, 3) := by decide +kernel
theorem dX9_served_49 : decode cX9_served 49 = .ok (.iload_n 2, 1) := by decide +kernel
theorem dX9_served_50 : decode cX9_served 50 = .ok (.invokevirtual 264, 3) := by decide +kernel
theorem dX9_served_53 : decode cX9_served 53 = .ok (.istore 5, 2) := by decide +kernel
theorem dX9_served_55 : decode cX9_served 55 = .ok (.iload_n 3, 1) := by decide +kernel
theorem dX9_served_56 : decode cX9_served 56 = .ok (.ifCond .ne 11, 3) := by decide +kernel
theorem dX9_served_59 : decode cX9_served 59 = .ok (.iload 5, 2) := by decide +kernel
theorem dX9_served_61 : decode cX9_served 61 = .ok (.invokestatic 268, 3) := by decide +kernel
theorem dX9_served_64 : decode cX9_served 64 = .ok (.goto 5, 3) := by decide +kernel
theorem dX9_served_67 : decode cX9_served 67 = .ok (.iload 5, 2) := by decide +kernel
theorem dX9_served_69 : decode cX9_served 69 = .ok (.ireturn, 1) := by decide +kernel
theorem dX9_isReader_0 : decode cX9_isReader 0 = .ok (.iload_n 0, 1) := by decide +kernel
theorem dX9_isReader_1 : decode cX9_isReader 1 = .ok (.iconst 0, 1) := by decide +kernel
theorem dX9_isReader_2 : decode cX9_isReader 2 = .ok (.iconst 3, 1) := by decide +kernel
theorem dX9_isReader_3 : decode cX9_isReader 3 = .ok (.invokestatic 95, 3) := by decide +kernel
theorem dX9_isReader_6 : decode cX9_isReader 6 = .ok (.ireturn, 1) := by decide +kernel
theorem dX9_find_0 : decode cX9_find 0 = .ok (.iload_n 1, 1) := by decide +kernel
theorem dX9_find_1 : decode cX9_find 1 = .ok (.invokestatic 273, 3) := by decide +kernel
theorem dX9_find_4 : decode cX9_find 4 = .ok (.ifCond .eq 11, 3) := by decide +kernel
theorem dX9_find_7 : decode cX9_find 7 = .ok (.aload_n 0, 1) := by decide +kernel
theorem dX9_find_8 : decode cX9_find 8 = .ok (.iload_n 2, 1) := by decide +kernel
theorem dX9_find_9 : decode cX9_find 9 = .ok (.invokevirtual 158, 3) := by decide +kernel
theorem dX9_find_12 : decode cX9_find 12 = .ok (.ifnonnull 5, 3) := by decide +kernel
theorem dX9_find_15 : decode cX9_find 15 = .ok (.iconst (-1), 1) := by decide +kernel
theorem dX9_find_16 : decode cX9_find 16 = .ok (.ireturn, 1) := by decide +kernel
theorem dX9_find_17 : decode cX9_find 17 = .ok (.aload_n 0, 1) := by decide +kernel
theorem dX9_find_18 : decode cX9_find 18 = .ok (.getfield 79, 3) := by decide +kernel
theorem dX9_find_21 : decode cX9_find 21 = .ok (.iload_n 1, 1) := by decide +kernel
theorem dX9_find_22 : decode cX9_find 22 = .ok (.aaload, 1) := by decide +kernel
theorem dX9_find_23 : decode cX9_find 23 = .ok (.getfield 276, 3) := by decide +kernel
theorem dX9_find_26 : decode cX9_find 26 = .ok (.istore 4, 2) := by decide +kernel
theorem dX9_find_28 : decode cX9_find 28 = .ok (.iconst 1, 1) := by decide +kernel
theorem dX9_find_29 : decode cX9_find 29 = .ok (.iload_n 2, 1) := by decide +kernel
theorem dX9_find_30 : decode cX9_find 30 = .ok (.ishl, 1) := by decide +kernel
theorem dX9_find_31 : decode cX9_find 31 = .ok (.istore 5, 2) := by decide +kernel
theorem dX9_find_33 : decode cX9_find 33 = .ok (.aload_n 0, 1) := by decide +kernel
theorem dX9_find_34 : decode cX9_find 34 = .ok (.getfield 79, 3) := by decide +kernel
theorem dX9_find_37 : decode cX9_find 37 = .ok (.iload_n 1, 1) := by decide +kernel
theorem dX9_find_38 : decode cX9_find 38 = .ok (.aaload, 1) := by decide +kernel
theorem dX9_find_39 : decode cX9_find 39 = .ok (.iload_n 3, 1) := by decide +kernel
theorem dX9_find_40 : decode cX9_find 40 = .ok (.ifCond .eq 11, 3) := by decide +kernel
theorem dX9_find_43 : decode cX9_find 43 = .ok (.iload 4, 2) := by decide +kernel
theorem dX9_find_45 : decode cX9_find 45 = .ok (.iload 5, 2) := by decide +kernel
theorem dX9_find_47 : decode cX9_find 47 = .ok (.ior, 1) := by decide +kernel
theorem dX9_find_48 : decode cX9_find 48 = .ok (.goto 10, 3) := by decide +kernel
theorem dX9_find_51 : decode cX9_find 51 = .ok (.iload 4, 2) := by decide +kernel
theorem dX9_find_53 : decode cX9_find 53 = .ok (.iload 5, 2) := by decide +kernel
theorem dX9_find_55 : decode cX9_find 55 = .ok (.iconst (-1), 1) := by decide +kernel
theorem dX9_find_56 : decode cX9_find 56 = .ok (.ixor, 1) := by decide +kernel
theorem dX9_find_57 : decode cX9_find 57 = .ok (.iand, 1) := by decide +kernel
theorem dX9_find_58 : decode cX9_find 58 = .ok (.putfield 276, 3) := by decide +kernel
theorem dX9_find_61 : decode cX9_find 61 = .ok (.iload 4, 2) := by decide +kernel
theorem dX9_find_63 : decode cX9_find 63 = .ok (.iload 5, 2) := by decide +kernel
theorem dX9_find_65 : decode cX9_find 65 = .ok (.iand, 1) := by decide +kernel
theorem dX9_find_66 : decode cX9_find 66 = .ok (.ifCond .eq 7, 3) := by decide +kernel
theorem dX9_find_69 : decode cX9_find 69 = .ok (.iconst 1, 1) := by decide +kernel
theorem dX9_find_70 : decode cX9_find 70 = .ok (.goto 4, 3) := by decide +kernel
theorem dX9_find_73 : decode cX9_find 73 = .ok (.iconst 0, 1) := by decide +kernel
theorem dX9_find_74 : decode cX9_find 74 = .ok (.invokestatic 188, 3) := by decide +kernel
theorem dX9_find_77 : decode cX9_find 77 = .ok (.ireturn, 1) := by decide +kernel
theorem dX9_inLowestTerms_0 : decode cX9_inLowestTerms 0 = .ok (.iload_n 2, 1) := by decide +kernel
theorem dX9_inLowestTerms_1 : decode cX9_inLowestTerms 1 = .ok (.istore_n 3, 1) := by decide +kernel
theorem dX9_inLowestTerms_2 : decode cX9_inLowestTerms 2 = .ok (.iload_n 3, 1) := by decide +kernel
theorem dX9_inLowestTerms_3 : decode cX9_inLowestTerms 3 = .ok (.iconst 1, 1) := by decide +kernel
theorem dX9_inLowestTerms_4 : decode cX9_inLowestTerms 4 = .ok (.if_icmp .le 25, 3) := by decide +kernel
theorem dX9_inLowestTerms_7 : decode cX9_inLowestTerms 7 = .ok (.iload_n 1, 1) := by decide +kernel
theorem dX9_inLowestTerms_8 : decode cX9_inLowestTerms 8 = .ok (.iload_n 3, 1) := by decide +kernel
theorem dX9_inLowestTerms_9 : decode cX9_inLowestTerms 9 = .ok (.irem, 1) := by decide +kernel
theorem dX9_inLowestTerms_10 : decode cX9_inLowestTerms 10 = .ok (.ifCond .ne 13, 3) := by decide +kernel
theorem dX9_inLowestTerms_13 : decode cX9_inLowestTerms 13 = .ok (.iload_n 2, 1) := by decide +kernel
theorem dX9_inLowestTerms_14 : decode cX9_inLowestTerms 14 = .ok (.iload_n 3, 1) := by decide +kernel
theorem dX9_inLowestTerms_15 : decode cX9_inLowestTerms 15 = .ok (.irem, 1) := by decide +kernel
theorem dX9_inLowestTerms_16 : decode cX9_inLowestTerms 16 = .ok (.ifCond .ne 7, 3) := by decide +kernel
theorem dX9_inLowestTerms_19 : decode cX9_inLowestTerms 19 = .ok (.iload_n 0, 1) := by decide +kernel
theorem dX9_inLowestTerms_20 : decode cX9_inLowestTerms 20 = .ok (.iload_n 3, 1) := by decide +kernel
theorem dX9_inLowestTerms_21 : decode cX9_inLowestTerms 21 = .ok (.idiv, 1) := by decide +kernel
theorem dX9_inLowestTerms_22 : decode cX9_inLowestTerms 22 = .ok (.ireturn, 1) := by decide +kernel
theorem dX9_inLowestTerms_23 : decode cX9_inLowestTerms 23 = .ok (.iinc 3 (-1), 3) := by decide +kernel
theorem dX9_inLowestTerms_26 : decode cX9_inLowestTerms 26 = .ok (.goto (-24), 3) := by decide +kernel
theorem dX9_inLowestTerms_29 : decode cX9_inLowestTerms 29 = .ok (.iload_n 0, 1) := by decide +kernel
theorem dX9_inLowestTerms_30 : decode cX9_inLowestTerms 30 = .ok (.ireturn, 1) := by decide +kernel
theorem dX9_misses_0 : decode cX9_misses 0 = .ok (.iload_n 1, 1) := by decide +kernel
theorem dX9_misses_1 : decode cX9_misses 1 = .ok (.invokestatic 273, 3) := by decide +kernel
theorem dX9_misses_4 : decode cX9_misses 4 = .ok (.ifCond .eq 15, 3) := by decide +kernel
theorem dX9_misses_7 : decode cX9_misses 7 = .ok (.iload_n 2, 1) := by decide +kernel
theorem dX9_misses_8 : decode cX9_misses 8 = .ok (.invokestatic 273, 3) := by decide +kernel
theorem dX9_misses_11 : decode cX9_misses 11 = .ok (.ifCond .eq 8, 3) := by decide +kernel
theorem dX9_misses_14 : decode cX9_misses 14 = .ok (.iload_n 1, 1) := by decide +kernel
theorem dX9_misses_15 : decode cX9_misses 15 = .ok (.iload_n 2, 1) := by decide +kernel
theorem dX9_misses_16 : decode cX9_misses 16 = .ok (.if_icmp .ne 5, 3) := by decide +kernel
theorem dX9_misses_19 : decode cX9_misses 19 = .ok (.iconst (-1), 1) := by decide +kernel
theorem dX9_misses_20 : decode cX9_misses 20 = .ok (.ireturn, 1) := by decide +kernel
theorem dX9_misses_21 : decode cX9_misses 21 = .ok (.iload_n 3, 1) := by decide +kernel
theorem dX9_misses_22 : decode cX9_misses 22 = .ok (.iconst 0, 1) := by decide +kernel
theorem dX9_misses_23 : decode cX9_misses 23 = .ok (.iconst 1, 1) := by decide +kernel
theorem dX9_misses_24 : decode cX9_misses 24 = .ok (.invokestatic 95, 3) := by decide +kernel
theorem dX9_misses_27 : decode cX9_misses 27 = .ok (.ifCond .eq 13, 3) := by decide +kernel
theorem dX9_misses_30 : decode cX9_misses 30 = .ok (.iload 4, 2) := by decide +kernel
theorem dX9_misses_32 : decode cX9_misses 32 = .ok (.iconst 0, 1) := by decide +kernel
theorem dX9_misses_33 : decode cX9_misses 33 = .ok (.iconst 1, 1) := by decide +kernel
theorem dX9_misses_34 : decode cX9_misses 34 = .ok (.invokestatic 95, 3) := by decide +kernel
theorem dX9_misses_37 : decode cX9_misses 37 = .ok (.ifCond .ne 6, 3) := by decide +kernel
theorem dX9_misses_40 : decode cX9_misses 40 = .ok (.bipush (-2), 2) := by decide +kernel
theorem dX9_misses_42 : decode cX9_misses 42 = .ok (.ireturn, 1) := by decide +kernel
theorem dX9_misses_43 : decode cX9_misses 43 = .ok (.aload_n 0, 1) := by decide +kernel
theorem dX9_misses_44 : decode cX9_misses 44 = .ok (.getfield 79, 3) := by decide +kernel
theorem dX9_misses_47 : decode cX9_misses 47 = .ok (.iload_n 1, 1) := by decide +kernel
theorem dX9_misses_48 : decode cX9_misses 48 = .ok (.aaload, 1) := by decide +kernel
theorem dX9_misses_49 : decode cX9_misses 49 = .ok (.getfield 276, 3) := by decide +kernel
theorem dX9_misses_52 : decode cX9_misses 52 = .ok (.invokestatic 268, 3) := by decide +kernel
theorem dX9_misses_55 : decode cX9_misses 55 = .ok (.istore 5, 2) := by decide +kernel
theorem dX9_misses_57 : decode cX9_misses 57 = .ok (.aload_n 0, 1) := by decide +kernel
theorem dX9_misses_58 : decode cX9_misses 58 = .ok (.getfield 79, 3) := by decide +kernel
theorem dX9_misses_61 : decode cX9_misses 61 = .ok (.iload_n 2, 1) := by decide +kernel
theorem dX9_misses_62 : decode cX9_misses 62 = .ok (.aaload, 1) := by decide +kernel
theorem dX9_misses_63 : decode cX9_misses 63 = .ok (.getfield 276, 3) := by decide +kernel
theorem dX9_misses_66 : decode cX9_misses 66 = .ok (.invokestatic 268, 3) := by decide +kernel
theorem dX9_misses_69 : decode cX9_misses 69 = .ok (.istore 6, 2) := by decide +kernel
theorem dX9_misses_71 : decode cX9_misses 71 = .ok (.aload_n 0, 1) := by decide +kernel
theorem dX9_misses_72 : decode cX9_misses 72 = .ok (.getfield 79, 3) := by decide +kernel
theorem dX9_misses_75 : decode cX9_misses 75 = .ok (.iload_n 1, 1) := by decide +kernel
theorem dX9_misses_76 : decode cX9_misses 76 = .ok (.aaload, 1) := by decide +kernel
theorem dX9_misses_77 : decode cX9_misses 77 = .ok (.getfield 276, 3) := by decide +kernel
theorem dX9_misses_80 : decode cX9_misses 80 = .ok (.aload_n 0, 1) := by decide +kernel
theorem dX9_misses_81 : decode cX9_misses 81 = .ok (.getfield 79, 3) := by decide +kernel
theorem dX9_misses_84 : decode cX9_misses 84 = .ok (.iload_n 2, 1) := by decide +kernel
theorem dX9_misses_85 : decode cX9_misses 85 = .ok (.aaload, 1) := by decide +kernel
theorem dX9_misses_86 : decode cX9_misses 86 = .ok (.getfield 276, 3) := by decide +kernel
theorem dX9_misses_89 : decode cX9_misses 89 = .ok (.iand, 1) := by decide +kernel
theorem dX9_misses_90 : decode cX9_misses 90 = .ok (.invokestatic 268, 3) := by decide +kernel
theorem dX9_misses_93 : decode cX9_misses 93 = .ok (.istore 7, 2) := by decide +kernel
theorem dX9_misses_95 : decode cX9_misses 95 = .ok (.iload 7, 2) := by decide +kernel
theorem dX9_misses_97 : decode cX9_misses 97 = .ok (.ifCond .ne 6, 3) := by decide +kernel
theorem dX9_misses_100 : decode cX9_misses 100 = .ok (.iload 4, 2) := by decide +kernel
theorem dX9_misses_102 : decode cX9_misses 102 = .ok (.ireturn, 1) := by decide +kernel
theorem dX9_misses_103 : decode cX9_misses 103 = .ok (.iload_n 3, 1) := by decide +kernel
theorem dX9_misses_104 : decode cX9_misses 104 = .ok (.ifCond .ne 11, 3) := by decide +kernel
theorem dX9_misses_107 : decode cX9_misses 107 = .ok (.iload 5, 2) := by decide +kernel
theorem dX9_misses_109 : decode cX9_misses 109 = .ok (.iload 6, 2) := by decide +kernel
theorem dX9_misses_111 : decode cX9_misses 111 = .ok (.imul, 1) := by decide +kernel
theorem dX9_misses_112 : decode cX9_misses 112 = .ok (.goto 14, 3) := by decide +kernel
theorem dX9_misses_115 : decode cX9_misses 115 = .ok (.iload 5, 2) := by decide +kernel
theorem dX9_misses_117 : decode cX9_misses 117 = .ok (.iload 7, 2) := by decide +kernel
theorem dX9_misses_119 : decode cX9_misses 119 = .ok (.isub, 1) := by decide +kernel
theorem dX9_misses_120 : decode cX9_misses 120 = .ok (.iload 6, 2) := by decide +kernel
theorem dX9_misses_122 : decode cX9_misses 122 = .ok (.iload 7, 2) := by decide +kernel
theorem dX9_misses_124 : decode cX9_misses 124 = .ok (.isub, 1) := by decide +kernel
theorem dX9_misses_125 : decode cX9_misses 125 = .ok (.imul, 1) := by decide +kernel
theorem dX9_misses_126 : decode cX9_misses 126 = .ok (.istore 8, 2) := by decide +kernel
theorem dX9_misses_128 : decode cX9_misses 128 = .ok (.iload 4, 2) := by decide +kernel
theorem dX9_misses_130 : decode cX9_misses 130 = .ok (.ifCond .ne 8, 3) := by decide +kernel
theorem dX9_misses_133 : decode cX9_misses 133 = .ok (.iload 8, 2) := by decide +kernel
theorem dX9_misses_135 : decode cX9_misses 135 = .ok (.goto 5, 3) := by decide +kernel
theorem dX9_misses_138 : decode cX9_misses 138 = .ok (.iload 7, 2) := by decide +kernel
theorem dX9_misses_140 : decode cX9_misses 140 = .ok (.iload 8, 2) := by decide +kernel
theorem dX9_misses_142 : decode cX9_misses 142 = .ok (.iload 7, 2) := by decide +kernel
theorem dX9_misses_144 : decode cX9_misses 144 = .ok (.invokestatic 279, 3) := by decide +kernel
theorem dX9_misses_147 : decode cX9_misses 147 = .ok (.ireturn, 1) := by decide +kernel
theorem dX9_reader_0 : decode cX9_reader 0 = .ok (.iload_n 1, 1) := by decide +kernel
theorem dX9_reader_1 : decode cX9_reader 1 = .ok (.invokestatic 273, 3) := by decide +kernel
theorem dX9_reader_4 : decode cX9_reader 4 = .ok (.ifCond .ne 5, 3) := by decide +kernel
theorem dX9_reader_7 : decode cX9_reader 7 = .ok (.iconst (-1), 1) := by decide +kernel
theorem dX9_reader_8 : decode cX9_reader 8 = .ok (.ireturn, 1) := by decide +kernel
theorem dX9_reader_9 : decode cX9_reader 9 = .ok (.aload_n 0, 1) := by decide +kernel
theorem dX9_reader_10 : decode cX9_reader 10 = .ok (.getfield 79, 3) := by decide +kernel
theorem dX9_reader_13 : decode cX9_reader 13 = .ok (.iload_n 1, 1) := by decide +kernel
theorem dX9_reader_14 : decode cX9_reader 14 = .ok (.aaload, 1) := by decide +kernel
theorem dX9_reader_15 : decode cX9_reader 15 = .ok (.astore 4, 2) := by decide +kernel
theorem dX9_reader_17 : decode cX9_reader 17 = .ok (.iload_n 2, 1) := by decide +kernel
theorem dX9_reader_18 : decode cX9_reader 18 = .ok (.ifCond .ne 29, 3) := by decide +kernel
theorem dX9_reader_21 : decode cX9_reader 21 = .ok (.iload_n 3, 1) := by decide +kernel
theorem dX9_reader_22 : decode cX9_reader 22 = .ok (.iconst 1, 1) := by decide +kernel
theorem dX9_reader_23 : decode cX9_reader 23 = .ok (.bipush 100, 2) := by decide +kernel
theorem dX9_reader_25 : decode cX9_reader 25 = .ok (.invokestatic 95, 3) := by decide +kernel
theorem dX9_reader_28 : decode cX9_reader 28 = .ok (.ifCond .eq 19, 3) := by decide +kernel
theorem dX9_reader_31 : decode cX9_reader 31 = .ok (.aload 4, 2) := by decide +kernel
theorem dX9_reader_33 : decode cX9_reader 33 = .ok (.getfield 283, 3) := by decide +kernel
theorem dX9_reader_36 : decode cX9_reader 36 = .ok (.istore 5, 2) := by decide +kernel
theorem dX9_reader_38 : decode cX9_reader 38 = .ok (.aload 4, 2) := by decide +kernel
theorem dX9_reader_40 : decode cX9_reader 40 = .ok (.iload_n 3, 1) := by decide +kernel
theorem dX9_reader_41 : decode cX9_reader 41 = .ok (.putfield 283, 3) := by decide +kernel
theorem dX9_reader_44 : decode cX9_reader 44 = .ok (.iload 5, 2) := by decide +kernel
theorem dX9_reader_46 : decode cX9_reader 46 = .ok (.ireturn, 1) := by decide +kernel
theorem dX9_reader_47 : decode cX9_reader 47 = .ok (.iload_n 2, 1) := by decide +kernel
theorem dX9_reader_48 : decode cX9_reader 48 = .ok (.iconst 1, 1) := by decide +kernel
theorem dX9_reader_49 : decode cX9_reader 49 = .ok (.if_icmp .ne 30, 3) := by decide +kernel
theorem dX9_reader_52 : decode cX9_reader 52 = .ok (.iload_n 3, 1) := by decide +kernel
theorem dX9_reader_53 : decode cX9_reader 53 = .ok (.iconst 0, 1) := by decide +kernel
theorem dX9_reader_54 : decode cX9_reader 54 = .ok (.sipush 1000, 3) := by decide +kernel
theorem dX9_reader_57 : decode cX9_reader 57 = .ok (.invokestatic 95, 3) := by decide +kernel
theorem dX9_reader_60 : decode cX9_reader 60 = .ok (.ifCond .eq 19, 3) := by decide +kernel
theorem dX9_reader_63 : decode cX9_reader 63 = .ok (.aload 4, 2) := by decide +kernel
theorem dX9_reader_65 : decode cX9_reader 65 = .ok (.getfield 286, 3) := by decide +kernel
theorem dX9_reader_68 : decode cX9_reader 68 = .ok (.istore 5, 2) := by decide +kernel
theorem dX9_reader_70 : decode cX9_reader 70 = .ok (.aload 4, 2) := by decide +kernel
theorem dX9_reader_72 : decode cX9_reader 72 = .ok (.iload_n 3, 1) := by decide +kernel
theorem dX9_reader_73 : decode cX9_reader 73 = .ok (.putfield 286, 3) := by decide +kernel
theorem dX9_reader_76 : decode cX9_reader 76 = .ok (.iload 5, 2) := by decide +kernel
theorem dX9_reader_78 : decode cX9_reader 78 = .ok (.ireturn, 1) := by decide +kernel
theorem dX9_reader_79 : decode cX9_reader 79 = .ok (.bipush (-2), 2) := by decide +kernel
theorem dX9_reader_81 : decode cX9_reader 81 = .ok (.ireturn, 1) := by decide +kernel
theorem dX9_slips_0 : decode cX9_slips 0 = .ok (.iload_n 1, 1) := by decide +kernel
theorem dX9_slips_1 : decode cX9_slips 1 = .ok (.invokestatic 273, 3) := by decide +kernel
theorem dX9_slips_4 : decode cX9_slips 4 = .ok (.ifCond .ne 5, 3) := by decide +kernel
theorem dX9_slips_7 : decode cX9_slips 7 = .ok (.iconst (-1), 1) := by decide +kernel
theorem dX9_slips_8 : decode cX9_slips 8 = .ok (.ireturn, 1) := by decide +kernel
theorem dX9_slips_9 : decode cX9_slips 9 = .ok (.iload_n 2, 1) := by decide +kernel
theorem dX9_slips_10 : decode cX9_slips 10 = .ok (.iconst 0, 1) := by decide +kernel
theorem dX9_slips_11 : decode cX9_slips 11 = .ok (.bipush 9, 2) := by decide +kernel
theorem dX9_slips_13 : decode cX9_slips 13 = .ok (.invokestatic 95, 3) := by decide +kernel
theorem dX9_slips_16 : decode cX9_slips 16 = .ok (.ifCond .eq 13, 3) := by decide +kernel
theorem dX9_slips_19 : decode cX9_slips 19 = .ok (.iload_n 3, 1) := by decide +kernel
theorem dX9_slips_20 : decode cX9_slips 20 = .ok (.iconst 0, 1) := by decide +kernel
theorem dX9_slips_21 : decode cX9_slips 21 = .ok (.bipush 100, 2) := by decide +kernel
theorem dX9_slips_23 : decode cX9_slips 23 = .ok (.invokestatic 95, 3) := by decide +kernel
theorem dX9_slips_26 : decode cX9_slips 26 = .ok (.ifCond .ne 6, 3) := by decide +kernel
theorem dX9_slips_29 : decode cX9_slips 29 = .ok (.bipush (-2), 2) := by decide +kernel
theorem dX9_slips_31 : decode cX9_slips 31 = .ok (.ireturn, 1) := by decide +kernel
theorem dX9_slips_32 : decode cX9_slips 32 = .ok (.aload_n 0, 1) := by decide +kernel
theorem dX9_slips_33 : decode cX9_slips 33 = .ok (.getfield 79, 3) := by decide +kernel
theorem dX9_slips_36 : decode cX9_slips 36 = .ok (.iload_n 1, 1) := by decide +kernel
theorem dX9_slips_37 : decode cX9_slips 37 = .ok (.aaload, 1) := by decide +kernel
theorem dX9_slips_38 : decode cX9_slips 38 = .ok (.getfield 289, 3) := by decide +kernel
theorem dX9_slips_41 : decode cX9_slips 41 = .ok (.iload_n 2, 1) := by decide +kernel
theorem dX9_slips_42 : decode cX9_slips 42 = .ok (.iaload, 1) := by decide +kernel
theorem dX9_slips_43 : decode cX9_slips 43 = .ok (.istore 4, 2) := by decide +kernel
theorem dX9_slips_45 : decode cX9_slips 45 = .ok (.aload_n 0, 1) := by decide +kernel
theorem dX9_slips_46 : decode cX9_slips 46 = .ok (.getfield 79, 3) := by decide +kernel
theorem dX9_slips_49 : decode cX9_slips 49 = .ok (.iload_n 1, 1) := by decide +kernel
theorem dX9_slips_50 : decode cX9_slips 50 = .ok (.aaload, 1) := by decide +kernel
theorem dX9_slips_51 : decode cX9_slips 51 = .ok (.getfield 289, 3) := by decide +kernel
theorem dX9_slips_54 : decode cX9_slips 54 = .ok (.iload_n 2, 1) := by decide +kernel
theorem dX9_slips_55 : decode cX9_slips 55 = .ok (.iload_n 3, 1) := by decide +kernel
theorem dX9_slips_56 : decode cX9_slips 56 = .ok (.iastore, 1) := by decide +kernel
theorem dX9_slips_57 : decode cX9_slips 57 = .ok (.iload 4, 2) := by decide +kernel
theorem dX9_slips_59 : decode cX9_slips 59 = .ok (.ireturn, 1) := by decide +kernel
theorem dX5_giveAll_0 : decode cX5_giveAll 0 = .ok (.aload_n 0, 1) := by decide +kernel
theorem dX5_giveAll_1 : decode cX5_giveAll 1 = .ok (.getfield 19, 3) := by decide +kernel
theorem dX5_giveAll_4 : decode cX5_giveAll 4 = .ok (.iconst 0, 1) := by decide +kernel
theorem dX5_giveAll_5 : decode cX5_giveAll 5 = .ok (.lconst 0, 1) := by decide +kernel
theorem dX5_giveAll_6 : decode cX5_giveAll 6 = .ok (.lastore, 1) := by decide +kernel
theorem dX5_giveAll_7 : decode cX5_giveAll 7 = .ok (.iconst 0, 1) := by decide +kernel
theorem dX5_giveAll_8 : decode cX5_giveAll 8 = .ok (.istore_n 3, 1) := by decide +kernel
theorem dX5_giveAll_9 : decode cX5_giveAll 9 = .ok (.iload_n 3, 1) := by decide +kernel
theorem dX5_giveAll_10 : decode cX5_giveAll 10 = .ok (.bipush 8, 2) := by decide +kernel
theorem dX5_giveAll_12 : decode cX5_giveAll 12 = .ok (.if_icmp .ge 77, 3) := by decide +kernel
theorem dX5_giveAll_15 : decode cX5_giveAll 15 = .ok (.aload_n 0, 1) := by decide +kernel
theorem dX5_giveAll_16 : decode cX5_giveAll 16 = .ok (.getfield 9, 3) := by decide +kernel
theorem dX5_giveAll_19 : decode cX5_giveAll 19 = .ok (.iload_n 3, 1) := by decide +kernel
theorem dX5_giveAll_20 : decode cX5_giveAll 20 = .ok (.iaload, 1) := by decide +kernel
theorem dX5_giveAll_21 : decode cX5_giveAll 21 = .ok (.i2l, 1) := by decide +kernel
theorem dX5_giveAll_22 : decode cX5_giveAll 22 = .ok (.ldc2_w 47, 3) := by decide +kernel
theorem dX5_giveAll_25 : decode cX5_giveAll 25 = .ok (.lmul, 1) := by decide +kernel
theorem dX5_giveAll_26 : decode cX5_giveAll 26 = .ok (.iload_n 1, 1) := by decide +kernel
theorem dX5_giveAll_27 : decode cX5_giveAll 27 = .ok (.getstatic 49, 3) := by decide +kernel
theorem dX5_giveAll_30 : decode cX5_giveAll 30 = .ok (.iload_n 3, 1) := by decide +kernel
theorem dX5_giveAll_31 : decode cX5_giveAll 31 = .ok (.iaload, 1) := by decide +kernel
theorem dX5_giveAll_32 : decode cX5_giveAll 32 = .ok (.imul, 1) := by decide +kernel
theorem dX5_giveAll_33 : decode cX5_giveAll 33 = .ok (.i2l, 1) := by decide +kernel
theorem dX5_giveAll_34 : decode cX5_giveAll 34 = .ok (.ladd, 1) := by decide +kernel
theorem dX5_giveAll_35 : decode cX5_giveAll 35 = .ok (.lstore 4, 2) := by decide +kernel
theorem dX5_giveAll_37 : decode cX5_giveAll 37 = .ok (.iconst 1, 1) := by decide +kernel
theorem dX5_giveAll_38 : decode cX5_giveAll 38 = .ok (.iload_n 3, 1) := by decide +kernel
theorem dX5_giveAll_39 : decode cX5_giveAll 39 = .ok (.ishl, 1) := by decide +kernel
theorem dX5_giveAll_40 : decode cX5_giveAll 40 = .ok (.istore 6, 2) := by decide +kernel
theorem dX5_giveAll_42 : decode cX5_giveAll 42 = .ok (.iload 6, 2) := by decide +kernel
theorem dX5_giveAll_44 : decode cX5_giveAll 44 = .ok (.iconst 2, 1) := by decide +kernel
theorem dX5_giveAll_45 : decode cX5_giveAll 45 = .ok (.iload_n 3, 1) := by decide +kernel
theorem dX5_giveAll_46 : decode cX5_giveAll 46 = .ok (.ishl, 1) := by decide +kernel
theorem dX5_giveAll_47 : decode cX5_giveAll 47 = .ok (.if_icmp .ge 36, 3) := by decide +kernel
theorem dX5_giveAll_50 : decode cX5_giveAll 50 = .ok (.iload 6, 2) := by decide +kernel
theorem dX5_giveAll_52 : decode cX5_giveAll 52 = .ok (.iload_n 2, 1) := by decide +kernel
theorem dX5_giveAll_53 : decode cX5_giveAll 53 = .ok (.if_icmp .gt 30, 3) := by decide +kernel
theorem dX5_giveAll_56 : decode cX5_giveAll 56 = .ok (.aload_n 0, 1) := by decide +kernel
theorem dX5_giveAll_57 : decode cX5_giveAll 57 = .ok (.getfield 19, 3) := by decide +kernel
theorem dX5_giveAll_60 : decode cX5_giveAll 60 = .ok (.iload 6, 2) := by decide +kernel
theorem dX5_giveAll_62 : decode cX5_giveAll 62 = .ok (.aload_n 0, 1) := by decide +kernel
theorem dX5_giveAll_63 : decode cX5_giveAll 63 = .ok (.getfield 19, 3) := by decide +kernel
theorem dX5_giveAll_66 : decode cX5_giveAll 66 = .ok (.iload 6, 2) := by decide +kernel
theorem dX5_giveAll_68 : decode cX5_giveAll 68 = .ok (.iconst 1, 1) := by decide +kernel
theorem dX5_giveAll_69 : decode cX5_giveAll 69 = .ok (.iload_n 3, 1) := by decide +kernel
theorem dX5_giveAll_70 : decode cX5_giveAll 70 = .ok (.ishl, 1) := by decide +kernel
theorem dX5_giveAll_71 : decode cX5_giveAll 71 = .ok (.ixor, 1) := by decide +kernel
theorem dX5_giveAll_72 : decode cX5_giveAll 72 = .ok (.laload, 1) := by decide +kernel
theorem dX5_giveAll_73 : decode cX5_giveAll 73 = .ok (.lload 4, 2) := by decide +kernel
theorem dX5_giveAll_75 : decode cX5_giveAll 75 = .ok (.ladd, 1) := by decide +kernel
theorem dX5_giveAll_76 : decode cX5_giveAll 76 = .ok (.lastore, 1) := by decide +kernel
theorem dX5_giveAll_77 : decode cX5_giveAll 77 = .ok (.iinc 6 1, 3) := by decide +kernel
theorem dX5_giveAll_80 : decode cX5_giveAll 80 = .ok (.goto (-38), 3) := by decide +kernel
theorem dX5_giveAll_83 : decode cX5_giveAll 83 = .ok (.iinc 3 1, 3) := by decide +kernel
theorem dX5_giveAll_86 : decode cX5_giveAll 86 = .ok (.goto (-77), 3) := by decide +kernel
theorem dX5_giveAll_89 : decode cX5_giveAll 89 = .ok (.return_, 1) := by decide +kernel
theorem dX5_leaveUnread_0 : decode cX5_leaveUnread 0 = .ok (.aload_n 0, 1) := by decide +kernel
theorem dX5_leaveUnread_1 : decode cX5_leaveUnread 1 = .ok (.iconst 4, 1) := by decide +kernel
theorem dX5_leaveUnread_2 : decode cX5_leaveUnread 2 = .ok (.iload_n 1, 1) := by decide +kernel
theorem dX5_leaveUnread_3 : decode cX5_leaveUnread 3 = .ok (.invokevirtual 22, 3) := by decide +kernel
theorem dX5_leaveUnread_6 : decode cX5_leaveUnread 6 = .ok (.iconst 0, 1) := by decide +kernel
theorem dX5_leaveUnread_7 : decode cX5_leaveUnread 7 = .ok (.istore_n 2, 1) := by decide +kernel
theorem dX5_leaveUnread_8 : decode cX5_leaveUnread 8 = .ok (.iload_n 2, 1) := by decide +kernel
theorem dX5_leaveUnread_9 : decode cX5_leaveUnread 9 = .ok (.iload_n 1, 1) := by decide +kernel
theorem dX5_leaveUnread_10 : decode cX5_leaveUnread 10 = .ok (.if_icmp .gt 21, 3) := by decide +kernel
theorem dX5_leaveUnread_13 : decode cX5_leaveUnread 13 = .ok (.aload_n 0, 1) := by decide +kernel
theorem dX5_leaveUnread_14 : decode cX5_leaveUnread 14 = .ok (.getfield 15, 3) := by decide +kernel
theorem dX5_leaveUnread_17 : decode cX5_leaveUnread 17 = .ok (.iload_n 2, 1) := by decide +kernel
theorem dX5_leaveUnread_18 : decode cX5_leaveUnread 18 = .ok (.aload_n 0, 1) := by decide +kernel
theorem dX5_leaveUnread_19 : decode cX5_leaveUnread 19 = .ok (.getfield 19, 3) := by decide +kernel
theorem dX5_leaveUnread_22 : decode cX5_leaveUnread 22 = .ok (.iload_n 2, 1) := by decide +kernel
theorem dX5_leaveUnread_23 : decode cX5_leaveUnread 23 = .ok (.laload, 1) := by decide +kernel
theorem dX5_leaveUnread_24 : decode cX5_leaveUnread 24 = .ok (.lastore, 1) := by decide +kernel
theorem dX5_leaveUnread_25 : decode cX5_leaveUnread 25 = .ok (.iinc 2 1, 3) := by decide +kernel
theorem dX5_leaveUnread_28 : decode cX5_leaveUnread 28 = .ok (.goto (-20), 3) := by decide +kernel
theorem dX5_leaveUnread_31 : decode cX5_leaveUnread 31 = .ok (.return_, 1) := by decide +kernel
theorem dX5_offerTo_0 : decode cX5_offerTo 0 = .ok (.aload_n 0, 1) := by decide +kernel
theorem dX5_offerTo_1 : decode cX5_offerTo 1 = .ok (.iload_n 2, 1) := by decide +kernel
theorem dX5_offerTo_2 : decode cX5_offerTo 2 = .ok (.iload_n 3, 1) := by decide +kernel
theorem dX5_offerTo_3 : decode cX5_offerTo 3 = .ok (.invokevirtual 22, 3) := by decide +kernel
theorem dX5_offerTo_6 : decode cX5_offerTo 6 = .ok (.iload_n 3, 1) := by decide +kernel
theorem dX5_offerTo_7 : decode cX5_offerTo 7 = .ok (.istore 4, 2) := by decide +kernel
theorem dX5_offerTo_9 : decode cX5_offerTo 9 = .ok (.iload 4, 2) := by decide +kernel
theorem dX5_offerTo_11 : decode cX5_offerTo 11 = .ok (.ifCond .le 87, 3) := by decide +kernel
theorem dX5_offerTo_14 : decode cX5_offerTo 14 = .ok (.iload 4, 2) := by decide +kernel
theorem dX5_offerTo_16 : decode cX5_offerTo 16 = .ok (.istore 5, 2) := by decide +kernel
theorem dX5_offerTo_18 : decode cX5_offerTo 18 = .ok (.iload 5, 2) := by decide +kernel
theorem dX5_offerTo_20 : decode cX5_offerTo 20 = .ok (.ifCond .le 67, 3) := by decide +kernel
theorem dX5_offerTo_23 : decode cX5_offerTo 23 = .ok (.iload 5, 2) := by decide +kernel
theorem dX5_offerTo_25 : decode cX5_offerTo 25 = .ok (.invokestatic 26, 3) := by decide +kernel
theorem dX5_offerTo_28 : decode cX5_offerTo 28 = .ok (.aload_n 1, 1) := by decide +kernel
theorem dX5_offerTo_29 : decode cX5_offerTo 29 = .ok (.getfield 32, 3) := by decide +kernel
theorem dX5_offerTo_32 : decode cX5_offerTo 32 = .ok (.imul, 1) := by decide +kernel
theorem dX5_offerTo_33 : decode cX5_offerTo 33 = .ok (.aload_n 1, 1) := by decide +kernel
theorem dX5_offerTo_34 : decode cX5_offerTo 34 = .ok (.getfield 38, 3) := by decide +kernel
theorem dX5_offerTo_37 : decode cX5_offerTo 37 = .ok (.if_icmp .gt 38, 3) := by decide +kernel
theorem dX5_offerTo_40 : decode cX5_offerTo 40 = .ok (.aload_n 0, 1) := by decide +kernel
theorem dX5_offerTo_41 : decode cX5_offerTo 41 = .ok (.getfield 15, 3) := by decide +kernel
theorem dX5_offerTo_44 : decode cX5_offerTo 44 = .ok (.iload 4, 2) := by decide +kernel
theorem dX5_offerTo_46 : decode cX5_offerTo 46 = .ok (.aload_n 0, 1) := by decide +kernel
theorem dX5_offerTo_47 : decode cX5_offerTo 47 = .ok (.getfield 15, 3) := by decide +kernel
theorem dX5_offerTo_50 : decode cX5_offerTo 50 = .ok (.iload 4, 2) := by decide +kernel
theorem dX5_offerTo_52 : decode cX5_offerTo 52 = .ok (.laload, 1) := by decide +kernel
theorem dX5_offerTo_53 : decode cX5_offerTo 53 = .ok (.aload_n 0, 1) := by decide +kernel
theorem dX5_offerTo_54 : decode cX5_offerTo 54 = .ok (.getfield 19, 3) := by decide +kernel
theorem dX5_offerTo_57 : decode cX5_offerTo 57 = .ok (.iload 5, 2) := by decide +kernel
theorem dX5_offerTo_59 : decode cX5_offerTo 59 = .ok (.laload, 1) := by decide +kernel
theorem dX5_offerTo_60 : decode cX5_offerTo 60 = .ok (.aload_n 0, 1) := by decide +kernel
theorem dX5_offerTo_61 : decode cX5_offerTo 61 = .ok (.getfield 15, 3) := by decide +kernel
theorem dX5_offerTo_64 : decode cX5_offerTo 64 = .ok (.iload 4, 2) := by decide +kernel
theorem dX5_offerTo_66 : decode cX5_offerTo 66 = .ok (.iload 5, 2) := by decide +kernel
theorem dX5_offerTo_68 : decode cX5_offerTo 68 = .ok (.ixor, 1) := by decide +kernel
theorem dX5_offerTo_69 : decode cX5_offerTo 69 = .ok (.laload, 1) := by decide +kernel
theorem dX5_offerTo_70 : decode cX5_offerTo 70 = .ok (.ladd, 1) := by decide +kernel
theorem dX5_offerTo_71 : decode cX5_offerTo 71 = .ok (.invokestatic 41, 3) := by decide +kernel
theorem dX5_offerTo_74 : decode cX5_offerTo 74 = .ok (.lastore, 1) := by decide +kernel
theorem dX5_offerTo_75 : decode cX5_offerTo 75 = .ok (.iload 5, 2) := by decide +kernel
theorem dX5_offerTo_77 : decode cX5_offerTo 77 = .ok (.iconst 1, 1) := by decide +kernel
theorem dX5_offerTo_78 : decode cX5_offerTo 78 = .ok (.isub, 1) := by decide +kernel
theorem dX5_offerTo_79 : decode cX5_offerTo 79 = .ok (.iload 4, 2) := by decide +kernel
theorem dX5_offerTo_81 : decode cX5_offerTo 81 = .ok (.iand, 1) := by decide +kernel
theorem dX5_offerTo_82 : decode cX5_offerTo 82 = .ok (.istore 5, 2) := by decide +kernel
theorem dX5_offerTo_84 : decode cX5_offerTo 84 = .ok (.goto (-66), 3) := by decide +kernel
theorem dX5_offerTo_87 : decode cX5_offerTo 87 = .ok (.iload 4, 2) := by decide +kernel
theorem dX5_offerTo_89 : decode cX5_offerTo 89 = .ok (.iconst 1, 1) := by decide +kernel
theorem dX5_offerTo_90 : decode cX5_offerTo 90 = .ok (.isub, 1) := by decide +kernel
theorem dX5_offerTo_91 : decode cX5_offerTo 91 = .ok (.iload_n 3, 1) := by decide +kernel
theorem dX5_offerTo_92 : decode cX5_offerTo 92 = .ok (.iand, 1) := by decide +kernel
theorem dX5_offerTo_93 : decode cX5_offerTo 93 = .ok (.istore 4, 2) := by decide +kernel
theorem dX5_offerTo_95 : decode cX5_offerTo 95 = .ok (.goto (-86), 3) := by decide +kernel
theorem dX5_offerTo_98 : decode cX5_offerTo 98 = .ok (.return_, 1) := by decide +kernel
theorem dX9_leastParting_0 : decode cX9_leastParting 0 = .ok (.iconst 0, 1) := by decide +kernel
theorem dX9_leastParting_1 : decode cX9_leastParting 1 = .ok (.istore_n 2, 1) := by decide +kernel
theorem dX9_leastParting_2 : decode cX9_leastParting 2 = .ok (.iload_n 2, 1) := by decide +kernel
theorem dX9_leastParting_3 : decode cX9_leastParting 3 = .ok (.aload_n 0, 1) := by decide +kernel
theorem dX9_leastParting_4 : decode cX9_leastParting 4 = .ok (.getfield 19, 3) := by decide +kernel
theorem dX9_leastParting_7 : decode cX9_leastParting 7 = .ok (.if_icmp .ge 24, 3) := by decide +kernel
theorem dX9_leastParting_10 : decode cX9_leastParting 10 = .ok (.aload_n 0, 1) := by decide +kernel
theorem dX9_leastParting_11 : decode cX9_leastParting 11 = .ok (.getfield 86, 3) := by decide +kernel
theorem dX9_leastParting_14 : decode cX9_leastParting 14 = .ok (.getfield 344, 3) := by decide +kernel
theorem dX9_leastParting_17 : decode cX9_leastParting 17 = .ok (.iload_n 2, 1) := by decide +kernel
theorem dX9_leastParting_18 : decode cX9_leastParting 18 = .ok (.aload_n 0, 1) := by decide +kernel
theorem dX9_leastParting_19 : decode cX9_leastParting 19 = .ok (.getfield 7, 3) := by decide +kernel
theorem dX9_leastParting_22 : decode cX9_leastParting 22 = .ok (.iconst 3, 1) := by decide +kernel
theorem dX9_leastParting_23 : decode cX9_leastParting 23 = .ok (.iaload, 1) := by decide +kernel
theorem dX9_leastParting_24 : decode cX9_leastParting 24 = .ok (.iastore, 1) := by decide +kernel
theorem dX9_leastParting_25 : decode cX9_leastParting 25 = .ok (.iinc 2 1, 3) := by decide +kernel
theorem dX9_leastParting_28 : decode cX9_leastParting 28 = .ok (.goto (-26), 3) := by decide +kernel
theorem dX9_leastParting_31 : decode cX9_leastParting 31 = .ok (.aload_n 0, 1) := by decide +kernel
theorem dX9_leastParting_32 : decode cX9_leastParting 32 = .ok (.getfield 86, 3) := by decide +kernel
theorem dX9_leastParting_35 : decode cX9_leastParting 35 = .ok (.iload_n 1, 1) := by decide +kernel
theorem dX9_leastParting_36 : decode cX9_leastParting 36 = .ok (.invokevirtual 347, 3) := by decide +kernel
theorem dX9_leastParting_39 : decode cX9_leastParting 39 = .ok (.iconst 3, 1) := by decide +kernel
theorem dX9_leastParting_40 : decode cX9_leastParting 40 = .ok (.istore_n 2, 1) := by decide +kernel
theorem dX9_leastParting_41 : decode cX9_leastParting 41 = .ok (.iload_n 2, 1) := by decide +kernel
theorem dX9_leastParting_42 : decode cX9_leastParting 42 = .ok (.ifCond .lt 68, 3) := by decide +kernel
theorem dX9_leastParting_45 : decode cX9_leastParting 45 = .ok (.iconst 0, 1) := by decide +kernel
theorem dX9_leastParting_46 : decode cX9_leastParting 46 = .ok (.istore_n 3, 1) := by decide +kernel
theorem dX9_leastParting_47 : decode cX9_leastParting 47 = .ok (.iload_n 3, 1) := by decide +kernel
theorem dX9_leastParting_48 : decode cX9_leastParting 48 = .ok (.aload_n 0, 1) := by decide +kernel
theorem dX9_leastParting_49 : decode cX9_leastParting 49 = .ok (.getfield 19, 3) := by decide +kernel
theorem dX9_leastParting_52 : decode cX9_leastParting 52 = .ok (.if_icmp .ge 37, 3) := by decide +kernel
theorem dX9_leastParting_55 : decode cX9_leastParting 55 = .ok (.aload_n 0, 1) := by decide +kernel
theorem dX9_leastParting_56 : decode cX9_leastParting 56 = .ok (.getfield 86, 3) := by decide +kernel
theorem dX9_leastParting_59 : decode cX9_leastParting 59 = .ok (.getfield 344, 3) := by decide +kernel
theorem dX9_leastParting_62 : decode cX9_leastParting 62 = .ok (.iload_n 3, 1) := by decide +kernel
theorem dX9_leastParting_63 : decode cX9_leastParting 63 = .ok (.aload_n 0, 1) := by decide +kernel
theorem dX9_leastParting_64 : decode cX9_leastParting 64 = .ok (.getfield 79, 3) := by decide +kernel
theorem dX9_leastParting_67 : decode cX9_leastParting 67 = .ok (.iload_n 2, 1) := by decide +kernel
theorem dX9_leastParting_68 : decode cX9_leastParting 68 = .ok (.aaload, 1) := by decide +kernel
theorem dX9_leastParting_69 : decode cX9_leastParting 69 = .ok (.getfield 289, 3) := by decide +kernel
theorem dX9_leastParting_72 : decode cX9_leastParting 72 = .ok (.aload_n 0, 1) := by decide +kernel
theorem dX9_leastParting_73 : decode cX9_leastParting 73 = .ok (.getfield 15, 3) := by decide +kernel
theorem dX9_leastParting_76 : decode cX9_leastParting 76 = .ok (.iload_n 3, 1) := by decide +kernel
theorem dX9_leastParting_77 : decode cX9_leastParting 77 = .ok (.aaload, 1) := by decide +kernel
theorem dX9_leastParting_78 : decode cX9_leastParting 78 = .ok (.getfield 128, 3) := by decide +kernel
theorem dX9_leastParting_81 : decode cX9_leastParting 81 = .ok (.iaload, 1) := by decide +kernel
theorem dX9_leastParting_82 : decode cX9_leastParting 82 = .ok (.iastore, 1) := by decide +kernel
theorem dX9_leastParting_83 : decode cX9_leastParting 83 = .ok (.iinc 3 1, 3) := by decide +kernel
theorem dX9_leastParting_86 : decode cX9_leastParting 86 = .ok (.goto (-39), 3) := by decide +kernel
theorem dX9_leastParting_89 : decode cX9_leastParting 89 = .ok (.aload_n 0, 1) := by decide +kernel
theorem dX9_leastParting_90 : decode cX9_leastParting 90 = .ok (.getfield 86, 3) := by decide +kernel
theorem dX9_leastParting_93 : decode cX9_leastParting 93 = .ok (.aload_n 0, 1) := by decide +kernel
theorem dX9_leastParting_94 : decode cX9_leastParting 94 = .ok (.getfield 79, 3) := by decide +kernel
theorem dX9_leastParting_97 : decode cX9_leastParting 97 = .ok (.iload_n 2, 1) := by decide +kernel
theorem dX9_leastParting_98 : decode cX9_leastParting 98 = .ok (.aaload, 1) := by decide +kernel
theorem dX9_leastParting_99 : decode cX9_leastParting 99 = .ok (.iload_n 2, 1) := by decide +kernel
theorem dX9_leastParting_100 : decode cX9_leastParting 100 = .ok (.iload_n 1, 1) := by decide +kernel
theorem dX9_leastParting_101 : decode cX9_leastParting 101 = .ok (.invokevirtual 351, 3) := by decide +kernel
theorem dX9_leastParting_104 : decode cX9_leastParting 104 = .ok (.iinc 2 (-1), 3) := by decide +kernel
theorem dX9_leastParting_107 : decode cX9_leastParting 107 = .ok (.goto (-66), 3) := by decide +kernel
theorem dX9_leastParting_110 : decode cX9_leastParting 110 = .ok (.aload_n 0, 1) := by decide +kernel
theorem dX9_leastParting_111 : decode cX9_leastParting 111 = .ok (.getfield 86, 3) := by decide +kernel
theorem dX9_leastParting_114 : decode cX9_leastParting 114 = .ok (.getfield 355, 3) := by decide +kernel
theorem dX9_leastParting_117 : decode cX9_leastParting 117 = .ok (.iload_n 1, 1) := by decide +kernel
theorem dX9_leastParting_118 : decode cX9_leastParting 118 = .ok (.laload, 1) := by decide +kernel
theorem dX9_leastParting_119 : decode cX9_leastParting 119 = .ok (.lreturn, 1) := by decide +kernel
theorem dX5_sumOf_0 : decode cX5_sumOf 0 = .ok (.lload_n 0, 1) := by decide +kernel
theorem dX5_sumOf_1 : decode cX5_sumOf 1 = .ok (.ldc2_w 47, 3) := by decide +kernel
theorem dX5_sumOf_4 : decode cX5_sumOf 4 = .ok (.ldiv, 1) := by decide +kernel
theorem dX5_sumOf_5 : decode cX5_sumOf 5 = .ok (.l2i, 1) := by decide +kernel
theorem dX5_sumOf_6 : decode cX5_sumOf 6 = .ok (.ireturn, 1) := by decide +kernel
theorem dX5_readerOf_0 : decode cX5_readerOf 0 = .ok (.lload_n 0, 1) := by decide +kernel
theorem dX5_readerOf_1 : decode cX5_readerOf 1 = .ok (.lstore_n 3, 1) := by decide +kernel
theorem dX5_readerOf_2 : decode cX5_readerOf 2 = .ok (.bipush 7, 2) := by decide +kernel
theorem dX5_readerOf_4 : decode cX5_readerOf 4 = .ok (.istore 5, 2) := by decide +kernel
theorem dX5_readerOf_6 : decode cX5_readerOf 6 = .ok (.iload 5, 2) := by decide +kernel
theorem dX5_readerOf_8 : decode cX5_readerOf 8 = .ok (.iload_n 2, 1) := by decide +kernel
theorem dX5_readerOf_9 : decode cX5_readerOf 9 = .ok (.if_icmp .le 15, 3) := by decide +kernel
theorem dX5_readerOf_12 : decode cX5_readerOf 12 = .ok (.lload_n 3, 1) := by decide +kernel
theorem dX5_readerOf_13 : decode cX5_readerOf 13 = .ok (.ldc2_w 52, 3) := by decide +kernel
theorem dX5_readerOf_16 : decode cX5_readerOf 16 = .ok (.ldiv, 1) := by decide +kernel
theorem dX5_readerOf_17 : decode cX5_readerOf 17 = .ok (.lstore_n 3, 1) := by decide +kernel
theorem dX5_readerOf_18 : decode cX5_readerOf 18 = .ok (.iinc 5 (-1), 3) := by decide +kernel
theorem dX5_readerOf_21 : decode cX5_readerOf 21 = .ok (.goto (-15), 3) := by decide +kernel
theorem dX5_readerOf_24 : decode cX5_readerOf 24 = .ok (.lload_n 3, 1) := by decide +kernel
theorem dX5_readerOf_25 : decode cX5_readerOf 25 = .ok (.ldc2_w 52, 3) := by decide +kernel
theorem dX5_readerOf_28 : decode cX5_readerOf 28 = .ok (.lrem, 1) := by decide +kernel
theorem dX5_readerOf_29 : decode cX5_readerOf 29 = .ok (.l2i, 1) := by decide +kernel
theorem dX5_readerOf_30 : decode cX5_readerOf 30 = .ok (.ireturn, 1) := by decide +kernel
theorem dX9_parted_0 : decode cX9_parted 0 = .ok (.iload_n 1, 1) := by decide +kernel
theorem dX9_parted_1 : decode cX9_parted 1 = .ok (.iconst 0, 1) := by decide +kernel
theorem dX9_parted_2 : decode cX9_parted 2 = .ok (.iconst 1, 1) := by decide +kernel
theorem dX9_parted_3 : decode cX9_parted 3 = .ok (.aload_n 0, 1) := by decide +kernel
theorem dX9_parted_4 : decode cX9_parted 4 = .ok (.getfield 19, 3) := by decide +kernel
theorem dX9_parted_7 : decode cX9_parted 7 = .ok (.ishl, 1) := by decide +kernel
theorem dX9_parted_8 : decode cX9_parted 8 = .ok (.iconst 1, 1) := by decide +kernel
theorem dX9_parted_9 : decode cX9_parted 9 = .ok (.isub, 1) := by decide +kernel
theorem dX9_parted_10 : decode cX9_parted 10 = .ok (.invokestatic 95, 3) := by decide +kernel
theorem dX9_parted_13 : decode cX9_parted 13 = .ok (.ifCond .ne 6, 3) := by decide +kernel
theorem dX9_parted_16 : decode cX9_parted 16 = .ok (.bipush (-2), 2) := by decide +kernel
theorem dX9_parted_18 : decode cX9_parted 18 = .ok (.ireturn, 1) := by decide +kernel
theorem dX9_parted_19 : decode cX9_parted 19 = .ok (.iload_n 2, 1) := by decide +kernel
theorem dX9_parted_20 : decode cX9_parted 20 = .ok (.iconst (-1), 1) := by decide +kernel
theorem dX9_parted_21 : decode cX9_parted 21 = .ok (.if_icmp .eq 28, 3) := by decide +kernel
theorem dX9_parted_24 : decode cX9_parted 24 = .ok (.iload_n 2, 1) := by decide +kernel
theorem dX9_parted_25 : decode cX9_parted 25 = .ok (.iconst 0, 1) := by decide +kernel
theorem dX9_parted_26 : decode cX9_parted 26 = .ok (.aload_n 0, 1) := by decide +kernel
theorem dX9_parted_27 : decode cX9_parted 27 = .ok (.getfield 19, 3) := by decide +kernel
theorem dX9_parted_30 : decode cX9_parted 30 = .ok (.iconst 1, 1) := by decide +kernel
theorem dX9_parted_31 : decode cX9_parted 31 = .ok (.isub, 1) := by decide +kernel
theorem dX9_parted_32 : decode cX9_parted 32 = .ok (.invokestatic 95, 3) := by decide +kernel
theorem dX9_parted_35 : decode cX9_parted 35 = .ok (.ifCond .eq 11, 3) := by decide +kernel
theorem dX9_parted_38 : decode cX9_parted 38 = .ok (.iload_n 1, 1) := by decide +kernel
theorem dX9_parted_39 : decode cX9_parted 39 = .ok (.iload_n 2, 1) := by decide +kernel
theorem dX9_parted_40 : decode cX9_parted 40 = .ok (.invokestatic 292, 3) := by decide +kernel
theorem dX9_parted_43 : decode cX9_parted 43 = .ok (.ifCond .ne 6, 3) := by decide +kernel
theorem dX9_parted_46 : decode cX9_parted 46 = .ok (.bipush (-6), 2) := by decide +kernel
theorem dX9_parted_48 : decode cX9_parted 48 = .ok (.ireturn, 1) := by decide +kernel
theorem dX9_parted_49 : decode cX9_parted 49 = .ok (.aload_n 0, 1) := by decide +kernel
theorem dX9_parted_50 : decode cX9_parted 50 = .ok (.iload_n 1, 1) := by decide +kernel
theorem dX9_parted_51 : decode cX9_parted 51 = .ok (.invokevirtual 296, 3) := by decide +kernel
theorem dX9_parted_54 : decode cX9_parted 54 = .ok (.lstore_n 3, 1) := by decide +kernel
theorem dX9_parted_55 : decode cX9_parted 55 = .ok (.iload_n 2, 1) := by decide +kernel
theorem dX9_parted_56 : decode cX9_parted 56 = .ok (.iconst (-1), 1) := by decide +kernel
theorem dX9_parted_57 : decode cX9_parted 57 = .ok (.if_icmp .ne 10, 3) := by decide +kernel
theorem dX9_parted_60 : decode cX9_parted 60 = .ok (.lload_n 3, 1) := by decide +kernel
theorem dX9_parted_61 : decode cX9_parted 61 = .ok (.invokestatic 300, 3) := by decide +kernel
theorem dX9_parted_64 : decode cX9_parted 64 = .ok (.goto 8, 3) := by decide +kernel
theorem dX9_parted_67 : decode cX9_parted 67 = .ok (.lload_n 3, 1) := by decide +kernel
theorem dX9_parted_68 : decode cX9_parted 68 = .ok (.iload_n 2, 1) := by decide +kernel
theorem dX9_parted_69 : decode cX9_parted 69 = .ok (.invokestatic 304, 3) := by decide +kernel
theorem dX9_parted_72 : decode cX9_parted 72 = .ok (.ireturn, 1) := by decide +kernel
theorem dX9_isListed_0 : decode cX9_isListed 0 = .ok (.aload_n 0, 1) := by decide +kernel
theorem dX9_isListed_1 : decode cX9_isListed 1 = .ok (.aload_n 2, 1) := by decide +kernel
theorem dX9_isListed_2 : decode cX9_isListed 2 = .ok (.aload_n 1, 1) := by decide +kernel
theorem dX9_isListed_3 : decode cX9_isListed 3 = .ok (.getfield 166, 3) := by decide +kernel
theorem dX9_isListed_6 : decode cX9_isListed 6 = .ok (.getfield 131, 3) := by decide +kernel
theorem dX9_isListed_9 : decode cX9_isListed 9 = .ok (.invokevirtual 231, 3) := by decide +kernel
theorem dX9_isListed_12 : decode cX9_isListed 12 = .ok (.iconst 0, 1) := by decide +kernel
theorem dX9_isListed_13 : decode cX9_isListed 13 = .ok (.istore_n 3, 1) := by decide +kernel
theorem dX9_isListed_14 : decode cX9_isListed 14 = .ok (.iload_n 3, 1) := by decide +kernel
theorem dX9_isListed_15 : decode cX9_isListed 15 = .ok (.aload_n 0, 1) := by decide +kernel
theorem dX9_isListed_16 : decode cX9_isListed 16 = .ok (.getfield 61, 3) := by decide +kernel
theorem dX9_isListed_19 : decode cX9_isListed 19 = .ok (.if_icmp .ge 24, 3) := by decide +kernel
theorem dX9_isListed_22 : decode cX9_isListed 22 = .ok (.aload_n 0, 1) := by decide +kernel
theorem dX9_isListed_23 : decode cX9_isListed 23 = .ok (.getfield 58, 3) := by decide +kernel
theorem dX9_isListed_26 : decode cX9_isListed 26 = .ok (.iload_n 3, 1) := by decide +kernel
theorem dX9_isListed_27 : decode cX9_isListed 27 = .ok (.iaload, 1) := by decide +kernel
theorem dX9_isListed_28 : decode cX9_isListed 28 = .ok (.aload_n 1, 1) := by decide +kernel
theorem dX9_isListed_29 : decode cX9_isListed 29 = .ok (.getfield 324, 3) := by decide +kernel
theorem dX9_isListed_32 : decode cX9_isListed 32 = .ok (.if_icmp .ne 5, 3) := by decide +kernel
theorem dX9_isListed_35 : decode cX9_isListed 35 = .ok (.iconst 1, 1) := by decide +kernel
theorem dX9_isListed_36 : decode cX9_isListed 36 = .ok (.ireturn, 1) := by decide +kernel
theorem dX9_isListed_37 : decode cX9_isListed 37 = .ok (.iinc 3 1, 3) := by decide +kernel
theorem dX9_isListed_40 : decode cX9_isListed 40 = .ok (.goto (-26), 3) := by decide +kernel
theorem dX9_isListed_43 : decode cX9_isListed 43 = .ok (.iconst 0, 1) := by decide +kernel
theorem dX9_isListed_44 : decode cX9_isListed 44 = .ok (.ireturn, 1) := by decide +kernel
theorem dX9_send_0 : decode cX9_send 0 = .ok (.aload_n 0, 1) := by decide +kernel
theorem dX9_send_1 : decode cX9_send 1 = .ok (.iload_n 1, 1) := by decide +kernel
theorem dX9_send_2 : decode cX9_send 2 = .ok (.invokevirtual 158, 3) := by decide +kernel
theorem dX9_send_5 : decode cX9_send 5 = .ok (.astore_n 3, 1) := by decide +kernel
theorem dX9_send_6 : decode cX9_send 6 = .ok (.aload_n 0, 1) := by decide +kernel
theorem dX9_send_7 : decode cX9_send 7 = .ok (.iload_n 2, 1) := by decide +kernel
theorem dX9_send_8 : decode cX9_send 8 = .ok (.invokevirtual 208, 3) := by decide +kernel
theorem dX9_send_11 : decode cX9_send 11 = .ok (.astore 4, 2) := by decide +kernel
theorem dX9_send_13 : decode cX9_send 13 = .ok (.aload_n 3, 1) := by decide +kernel
theorem dX9_send_14 : decode cX9_send 14 = .ok (.ifnull 8, 3) := by decide +kernel
theorem dX9_send_17 : decode cX9_send 17 = .ok (.aload 4, 2) := by decide +kernel
theorem dX9_send_19 : decode cX9_send 19 = .ok (.ifnonnull 5, 3) := by decide +kernel
theorem dX9_send_22 : decode cX9_send 22 = .ok (.iconst (-1), 1) := by decide +kernel
theorem dX9_send_23 : decode cX9_send 23 = .ok (.ireturn, 1) := by decide +kernel
theorem dX9_send_24 : decode cX9_send 24 = .ok (.aload_n 0, 1) := by decide +kernel
theorem dX9_send_25 : decode cX9_send 25 = .ok (.aload_n 3, 1) := by decide +kernel
theorem dX9_send_26 : decode cX9_send 26 = .ok (.aload 4, 2) := by decide +kernel
theorem dX9_send_28 : decode cX9_send 28 = .ok (.invokevirtual 308, 3) := by decide +kernel
theorem dX9_send_31 : decode cX9_send 31 = .ok (.ifCond .ne 6, 3) := by decide +kernel
theorem dX9_send_34 : decode cX9_send 34 = .ok (.bipush (-3), 2) := by decide +kernel
theorem dX9_send_36 : decode cX9_send 36 = .ok (.ireturn, 1) := by decide +kernel
theorem dX9_send_37 : decode cX9_send 37 = .ok (.aload_n 3, 1) := by decide +kernel
theorem dX9_send_38 : decode cX9_send 38 = .ok (.getfield 174, 3) := by decide +kernel
theorem dX9_send_41 : decode cX9_send 41 = .ok (.iload_n 2, 1) := by decide +kernel
theorem dX9_send_42 : decode cX9_send 42 = .ok (.invokestatic 292, 3) := by decide +kernel
theorem dX9_send_45 : decode cX9_send 45 = .ok (.ifCond .eq 6, 3) := by decide +kernel
theorem dX9_send_48 : decode cX9_send 48 = .ok (.bipush (-5), 2) := by decide +kernel
theorem dX9_send_50 : decode cX9_send 50 = .ok (.ireturn, 1) := by decide +kernel
theorem dX9_send_51 : decode cX9_send 51 = .ok (.aload_n 3, 1) := by decide +kernel
theorem dX9_send_52 : decode cX9_send 52 = .ok (.dup, 1) := by decide +kernel
theorem dX9_send_53 : decode cX9_send 53 = .ok (.getfield 174, 3) := by decide +kernel
theorem dX9_send_56 : decode cX9_send 56 = .ok (.iconst 1, 1) := by decide +kernel
theorem dX9_send_57 : decode cX9_send 57 = .ok (.iload_n 2, 1) := by decide +kernel
theorem dX9_send_58 : decode cX9_send 58 = .ok (.ishl, 1) := by decide +kernel
theorem dX9_send_59 : decode cX9_send 59 = .ok (.ior, 1) := by decide +kernel
theorem dX9_send_60 : decode cX9_send 60 = .ok (.putfield 174, 3) := by decide +kernel
theorem dX9_send_63 : decode cX9_send 63 = .ok (.iconst 1, 1) := by decide +kernel
theorem dX9_send_64 : decode cX9_send 64 = .ok (.ireturn, 1) := by decide +kernel
theorem dX9_miss_0 : decode cX9_miss 0 = .ok (.iload_n 1, 1) := by decide +kernel
theorem dX9_miss_1 : decode cX9_miss 1 = .ok (.invokestatic 202, 3) := by decide +kernel
theorem dX9_miss_4 : decode cX9_miss 4 = .ok (.ifCond .ne 5, 3) := by decide +kernel
theorem dX9_miss_7 : decode cX9_miss 7 = .ok (.iconst (-1), 1) := by decide +kernel
theorem dX9_miss_8 : decode cX9_miss 8 = .ok (.ireturn, 1) := by decide +kernel
theorem dX9_miss_9 : decode cX9_miss 9 = .ok (.aload_n 0, 1) := by decide +kernel
theorem dX9_miss_10 : decode cX9_miss 10 = .ok (.getfield 90, 3) := by decide +kernel
theorem dX9_miss_13 : decode cX9_miss 13 = .ok (.iload_n 1, 1) := by decide +kernel
theorem dX9_miss_14 : decode cX9_miss 14 = .ok (.dup2, 1) := by decide +kernel
theorem dX9_miss_15 : decode cX9_miss 15 = .ok (.iaload, 1) := by decide +kernel
theorem dX9_miss_16 : decode cX9_miss 16 = .ok (.iconst 1, 1) := by decide +kernel
theorem dX9_miss_17 : decode cX9_miss 17 = .ok (.iadd, 1) := by decide +kernel
theorem dX9_miss_18 : decode cX9_miss 18 = .ok (.iastore, 1) := by decide +kernel
theorem dX9_miss_19 : decode cX9_miss 19 = .ok (.aload_n 0, 1) := by decide +kernel
theorem dX9_miss_20 : decode cX9_miss 20 = .ok (.getfield 90, 3) := by decide +kernel
theorem dX9_miss_23 : decode cX9_miss 23 = .ok (.iload_n 1, 1) := by decide +kernel
theorem dX9_miss_24 : decode cX9_miss 24 = .ok (.iaload, 1) := by decide +kernel
theorem dX9_miss_25 : decode cX9_miss 25 = .ok (.ireturn, 1) := by decide +kernel
theorem dX9_countSentTo_0 : decode cX9_countSentTo 0 = .ok (.iconst 0, 1) := by decide +kernel
theorem dX9_countSentTo_1 : decode cX9_countSentTo 1 = .ok (.istore_n 2, 1) := by decide +kernel
theorem dX9_countSentTo_2 : decode cX9_countSentTo 2 = .ok (.iconst 0, 1) := by decide +kernel
theorem dX9_countSentTo_3 : decode cX9_countSentTo 3 = .ok (.istore_n 3, 1) := by decide +kernel
theorem dX9_countSentTo_4 : decode cX9_countSentTo 4 = .ok (.iload_n 3, 1) := by decide +kernel
theorem dX9_countSentTo_5 : decode cX9_countSentTo 5 = .ok (.aload_n 0, 1) := by decide +kernel
theorem dX9_countSentTo_6 : decode cX9_countSentTo 6 = .ok (.getfield 41, 3) := by decide +kernel
theorem dX9_countSentTo_9 : decode cX9_countSentTo 9 = .ok (.if_icmp .ge 60, 3) := by decide +kernel
theorem dX9_countSentTo_12 : decode cX9_countSentTo 12 = .ok (.iconst 0, 1) := by decide +kernel
theorem dX9_countSentTo_13 : decode cX9_countSentTo 13 = .ok (.istore 4, 2) := by decide +kernel
theorem dX9_countSentTo_15 : decode cX9_countSentTo 15 = .ok (.aload_n 0, 1) := by decide +kernel
theorem dX9_countSentTo_16 : decode cX9_countSentTo 16 = .ok (.getfield 37, 3) := by decide +kernel
theorem dX9_countSentTo_19 : decode cX9_countSentTo 19 = .ok (.iload_n 3, 1) := by decide +kernel
theorem dX9_countSentTo_20 : decode cX9_countSentTo 20 = .ok (.aaload, 1) := by decide +kernel
theorem dX9_countSentTo_21 : decode cX9_countSentTo 21 = .ok (.getfield 359, 3) := by decide +kernel
theorem dX9_countSentTo_24 : decode cX9_countSentTo 24 = .ok (.iload_n 1, 1) := by decide +kernel
theorem dX9_countSentTo_25 : decode cX9_countSentTo 25 = .ok (.if_icmp .ne 38, 3) := by decide +kernel
theorem dX9_countSentTo_28 : decode cX9_countSentTo 28 = .ok (.iload 4, 2) := by decide +kernel
theorem dX9_countSentTo_30 : decode cX9_countSentTo 30 = .ok (.aload_n 0, 1) := by decide +kernel
theorem dX9_countSentTo_31 : decode cX9_countSentTo 31 = .ok (.getfield 29, 3) := by decide +kernel
theorem dX9_countSentTo_34 : decode cX9_countSentTo 34 = .ok (.if_icmp .ge 29, 3) := by decide +kernel
theorem dX9_countSentTo_37 : decode cX9_countSentTo 37 = .ok (.iload_n 2, 1) := by decide +kernel
theorem dX9_countSentTo_38 : decode cX9_countSentTo 38 = .ok (.aload_n 0, 1) := by decide +kernel
theorem dX9_countSentTo_39 : decode cX9_countSentTo 39 = .ok (.getfield 25, 3) := by decide +kernel
theorem dX9_countSentTo_42 : decode cX9_countSentTo 42 = .ok (.iload 4, 2) := by decide +kernel
theorem dX9_countSentTo_44 : decode cX9_countSentTo 44 = .ok (.aaload, 1) := by decide +kernel
theorem dX9_countSentTo_45 : decode cX9_countSentTo 45 = .ok (.getfield 174, 3) := by decide +kernel
theorem dX9_countSentTo_48 : decode cX9_countSentTo 48 = .ok (.iload_n 3, 1) := by decide +kernel
theorem dX9_countSentTo_49 : decode cX9_countSentTo 49 = .ok (.invokestatic 292, 3) := by decide +kernel
theorem dX9_countSentTo_52 : decode cX9_countSentTo 52 = .ok (.invokestatic 188, 3) := by decide +kernel
theorem dX9_countSentTo_55 : decode cX9_countSentTo 55 = .ok (.iadd, 1) := by decide +kernel
theorem dX9_countSentTo_56 : decode cX9_countSentTo 56 = .ok (.istore_n 2, 1) := by decide +kernel
theorem dX9_countSentTo_57 : decode cX9_countSentTo 57 = .ok (.iinc 4 1, 3) := by decide +kernel
theorem dX9_countSentTo_60 : decode cX9_countSentTo 60 = .ok (.goto (-45), 3) := by decide +kernel
theorem dX9_countSentTo_63 : decode cX9_countSentTo 63 = .ok (.iinc 3 1, 3) := by decide +kernel
theorem dX9_countSentTo_66 : decode cX9_countSentTo 66 = .ok (.goto (-62), 3) := by decide +kernel
theorem dX9_countSentTo_69 : decode cX9_countSentTo 69 = .ok (.iload_n 2, 1) := by decide +kernel
theorem dX9_countSentTo_70 : decode cX9_countSentTo 70 = .ok (.ireturn, 1) := by decide +kernel
theorem dX9_priceOf_0 : decode cX9_priceOf 0 = .ok (.iload_n 1, 1) := by decide +kernel
theorem dX9_priceOf_1 : decode cX9_priceOf 1 = .ok (.aload_n 0, 1) := by decide +kernel
theorem dX9_priceOf_2 : decode cX9_priceOf 2 = .ok (.getfield 7, 3) := by decide +kernel
theorem dX9_priceOf_5 : decode cX9_priceOf 5 = .ok (.iconst 4, 1) := by decide +kernel
theorem dX9_priceOf_6 : decode cX9_priceOf 6 = .ok (.iaload, 1) := by decide +kernel
theorem dX9_priceOf_7 : decode cX9_priceOf 7 = .ok (.invokestatic 362, 3) := by decide +kernel
theorem dX9_priceOf_10 : decode cX9_priceOf 10 = .ok (.istore_n 2, 1) := by decide +kernel
theorem dX9_priceOf_11 : decode cX9_priceOf 11 = .ok (.iload_n 1, 1) := by decide +kernel
theorem dX9_priceOf_12 : decode cX9_priceOf 12 = .ok (.iload_n 2, 1) := by decide +kernel
theorem dX9_priceOf_13 : decode cX9_priceOf 13 = .ok (.isub, 1) := by decide +kernel
theorem dX9_priceOf_14 : decode cX9_priceOf 14 = .ok (.aload_n 0, 1) := by decide +kernel
theorem dX9_priceOf_15 : decode cX9_priceOf 15 = .ok (.getfield 7, 3) := by decide +kernel
theorem dX9_priceOf_18 : decode cX9_priceOf 18 = .ok (.iconst 4, 1) := by decide +kernel
theorem dX9_priceOf_19 : decode cX9_priceOf 19 = .ok (.iaload, 1) := by decide +kernel
theorem dX9_priceOf_20 : decode cX9_priceOf 20 = .ok (.invokestatic 362, 3) := by decide +kernel
theorem dX9_priceOf_23 : decode cX9_priceOf 23 = .ok (.istore_n 3, 1) := by decide +kernel
theorem dX9_priceOf_24 : decode cX9_priceOf 24 = .ok (.iload_n 1, 1) := by decide +kernel
theorem dX9_priceOf_25 : decode cX9_priceOf 25 = .ok (.iload_n 2, 1) := by decide +kernel
theorem dX9_priceOf_26 : decode cX9_priceOf 26 = .ok (.isub, 1) := by decide +kernel
theorem dX9_priceOf_27 : decode cX9_priceOf 27 = .ok (.iload_n 3, 1) := by decide +kernel
theorem dX9_priceOf_28 : decode cX9_priceOf 28 = .ok (.isub, 1) := by decide +kernel
theorem dX9_priceOf_29 : decode cX9_priceOf 29 = .ok (.istore 4, 2) := by decide +kernel
theorem dX9_priceOf_31 : decode cX9_priceOf 31 = .ok (.iload_n 2, 1) := by decide +kernel
theorem dX9_priceOf_32 : decode cX9_priceOf 32 = .ok (.aload_n 0, 1) := by decide +kernel
theorem dX9_priceOf_33 : decode cX9_priceOf 33 = .ok (.getfield 7, 3) := by decide +kernel
theorem dX9_priceOf_36 : decode cX9_priceOf 36 = .ok (.iconst 5, 1) := by decide +kernel
theorem dX9_priceOf_37 : decode cX9_priceOf 37 = .ok (.iaload, 1) := by decide +kernel
theorem dX9_priceOf_38 : decode cX9_priceOf 38 = .ok (.imul, 1) := by decide +kernel
theorem dX9_priceOf_39 : decode cX9_priceOf 39 = .ok (.iload_n 3, 1) := by decide +kernel
theorem dX9_priceOf_40 : decode cX9_priceOf 40 = .ok (.aload_n 0, 1) := by decide +kernel
theorem dX9_priceOf_41 : decode cX9_priceOf 41 = .ok (.getfield 7, 3) := by decide +kernel
theorem dX9_priceOf_44 : decode cX9_priceOf 44 = .ok (.bipush 6, 2) := by decide +kernel
theorem dX9_priceOf_46 : decode cX9_priceOf 46 = .ok (.iaload, 1) := by decide +kernel
theorem dX9_priceOf_47 : decode cX9_priceOf 47 = .ok (.imul, 1) := by decide +kernel
theorem dX9_priceOf_48 : decode cX9_priceOf 48 = .ok (.iadd, 1) := by decide +kernel
theorem dX9_priceOf_49 : decode cX9_priceOf 49 = .ok (.iload 4, 2) := by decide +kernel
theorem dX9_priceOf_51 : decode cX9_priceOf 51 = .ok (.aload_n 0, 1) := by decide +kernel
theorem dX9_priceOf_52 : decode cX9_priceOf 52 = .ok (.getfield 7, 3) := by decide +kernel
theorem dX9_priceOf_55 : decode cX9_priceOf 55 = .ok (.bipush 7, 2) := by decide +kernel
theorem dX9_priceOf_57 : decode cX9_priceOf 57 = .ok (.iaload, 1) := by decide +kernel
theorem dX9_priceOf_58 : decode cX9_priceOf 58 = .ok (.imul, 1) := by decide +kernel
theorem dX9_priceOf_59 : decode cX9_priceOf 59 = .ok (.iadd, 1) := by decide +kernel
theorem dX9_priceOf_60 : decode cX9_priceOf 60 = .ok (.ireturn, 1) := by decide +kernel
theorem dX9_bill_0 : decode cX9_bill 0 = .ok (.iload_n 1, 1) := by decide +kernel
theorem dX9_bill_1 : decode cX9_bill 1 = .ok (.invokestatic 202, 3) := by decide +kernel
theorem dX9_bill_4 : decode cX9_bill 4 = .ok (.ifCond .ne 5, 3) := by decide +kernel
theorem dX9_bill_7 : decode cX9_bill 7 = .ok (.iconst (-1), 1) := by decide +kernel
theorem dX9_bill_8 : decode cX9_bill 8 = .ok (.ireturn, 1) := by decide +kernel
theorem dX9_bill_9 : decode cX9_bill 9 = .ok (.iload_n 2, 1) := by decide +kernel
theorem dX9_bill_10 : decode cX9_bill 10 = .ok (.lookupswitch 61 #[(0, 26), (1, 55)], 26) := by decide +kernel
theorem dX9_bill_36 : decode cX9_bill 36 = .ok (.iconst 0, 1) := by decide +kernel
theorem dX9_bill_37 : decode cX9_bill 37 = .ok (.aload_n 0, 1) := by decide +kernel
theorem dX9_bill_38 : decode cX9_bill 38 = .ok (.aload_n 0, 1) := by decide +kernel
theorem dX9_bill_39 : decode cX9_bill 39 = .ok (.iload_n 1, 1) := by decide +kernel
theorem dX9_bill_40 : decode cX9_bill 40 = .ok (.invokevirtual 312, 3) := by decide +kernel
theorem dX9_bill_43 : decode cX9_bill 43 = .ok (.invokevirtual 315, 3) := by decide +kernel
theorem dX9_bill_46 : decode cX9_bill 46 = .ok (.aload_n 0, 1) := by decide +kernel
theorem dX9_bill_47 : decode cX9_bill 47 = .ok (.getfield 7, 3) := by decide +kernel
theorem dX9_bill_50 : decode cX9_bill 50 = .ok (.bipush 8, 2) := by decide +kernel
theorem dX9_bill_52 : decode cX9_bill 52 = .ok (.iaload, 1) := by decide +kernel
theorem dX9_bill_53 : decode cX9_bill 53 = .ok (.aload_n 0, 1) := by decide +kernel
theorem dX9_bill_54 : decode cX9_bill 54 = .ok (.getfield 90, 3) := by decide +kernel
theorem dX9_bill_57 : decode cX9_bill 57 = .ok (.iload_n 1, 1) := by decide +kernel
theorem dX9_bill_58 : decode cX9_bill 58 = .ok (.iaload, 1) := by decide +kernel
theorem dX9_bill_59 : decode cX9_bill 59 = .ok (.imul, 1) := by decide +kernel
theorem dX9_bill_60 : decode cX9_bill 60 = .ok (.isub, 1) := by decide +kernel
theorem dX9_bill_61 : decode cX9_bill 61 = .ok (.invokestatic 318, 3) := by decide +kernel
theorem dX9_bill_64 : decode cX9_bill 64 = .ok (.ireturn, 1) := by decide +kernel
theorem dX9_bill_65 : decode cX9_bill 65 = .ok (.aload_n 0, 1) := by decide +kernel
theorem dX9_bill_66 : decode cX9_bill 66 = .ok (.iload_n 1, 1) := by decide +kernel
theorem dX9_bill_67 : decode cX9_bill 67 = .ok (.invokevirtual 312, 3) := by decide +kernel
theorem dX9_bill_70 : decode cX9_bill 70 = .ok (.ireturn, 1) := by decide +kernel
theorem dX9_bill_71 : decode cX9_bill 71 = .ok (.bipush (-2), 2) := by decide +kernel
theorem dX9_bill_73 : decode cX9_bill 73 = .ok (.ireturn, 1) := by decide +kernel
theorem dX9_file_0 : decode cX9_file 0 = .ok (.aload_n 0, 1) := by decide +kernel
theorem dX9_file_1 : decode cX9_file 1 = .ok (.iload_n 1, 1) := by decide +kernel
theorem dX9_file_2 : decode cX9_file 2 = .ok (.invokevirtual 158, 3) := by decide +kernel
theorem dX9_file_5 : decode cX9_file 5 = .ok (.astore_n 3, 1) := by decide +kernel
theorem dX9_file_6 : decode cX9_file 6 = .ok (.aload_n 3, 1) := by decide +kernel
theorem dX9_file_7 : decode cX9_file 7 = .ok (.ifnonnull 5, 3) := by decide +kernel
theorem dX9_file_10 : decode cX9_file 10 = .ok (.iconst (-1), 1) := by decide +kernel
theorem dX9_file_11 : decode cX9_file 11 = .ok (.ireturn, 1) := by decide +kernel
theorem dX9_file_12 : decode cX9_file 12 = .ok (.iload_n 2, 1) := by decide +kernel
theorem dX9_file_13 : decode cX9_file 13 = .ok (.iconst 0, 1) := by decide +kernel
theorem dX9_file_14 : decode cX9_file 14 = .ok (.bipush 15, 2) := by decide +kernel
theorem dX9_file_16 : decode cX9_file 16 = .ok (.invokestatic 95, 3) := by decide +kernel
theorem dX9_file_19 : decode cX9_file 19 = .ok (.ifCond .ne 6, 3) := by decide +kernel
theorem dX9_file_22 : decode cX9_file 22 = .ok (.bipush (-2), 2) := by decide +kernel
theorem dX9_file_24 : decode cX9_file 24 = .ok (.ireturn, 1) := by decide +kernel
theorem dX9_file_25 : decode cX9_file 25 = .ok (.aload_n 3, 1) := by decide +kernel
theorem dX9_file_26 : decode cX9_file 26 = .ok (.getfield 172, 3) := by decide +kernel
theorem dX9_file_29 : decode cX9_file 29 = .ok (.istore 4, 2) := by decide +kernel
theorem dX9_file_31 : decode cX9_file 31 = .ok (.aload_n 3, 1) := by decide +kernel
theorem dX9_file_32 : decode cX9_file 32 = .ok (.iload_n 2, 1) := by decide +kernel
theorem dX9_file_33 : decode cX9_file 33 = .ok (.putfield 172, 3) := by decide +kernel
theorem dX9_file_36 : decode cX9_file 36 = .ok (.iload 4, 2) := by decide +kernel
theorem dX9_file_38 : decode cX9_file 38 = .ok (.ireturn, 1) := by decide +kernel
theorem dX9_old_0 : decode cX9_old 0 = .ok (.iload_n 1, 1) := by decide +kernel
theorem dX9_old_1 : decode cX9_old 1 = .ok (.invokestatic 235, 3) := by decide +kernel
theorem dX9_old_4 : decode cX9_old 4 = .ok (.ifCond .ne 5, 3) := by decide +kernel
theorem dX9_old_7 : decode cX9_old 7 = .ok (.iconst (-1), 1) := by decide +kernel
theorem dX9_old_8 : decode cX9_old 8 = .ok (.ireturn, 1) := by decide +kernel
theorem dX9_old_9 : decode cX9_old 9 = .ok (.iload_n 2, 1) := by decide +kernel
theorem dX9_old_10 : decode cX9_old 10 = .ok (.invokestatic 99, 3) := by decide +kernel
theorem dX9_old_13 : decode cX9_old 13 = .ok (.ifCond .eq 10, 3) := by decide +kernel
theorem dX9_old_16 : decode cX9_old 16 = .ok (.iload_n 3, 1) := by decide +kernel
theorem dX9_old_17 : decode cX9_old 17 = .ok (.invokestatic 99, 3) := by decide +kernel
theorem dX9_old_20 : decode cX9_old 20 = .ok (.ifCond .ne 6, 3) := by decide +kernel
theorem dX9_old_23 : decode cX9_old 23 = .ok (.bipush (-2), 2) := by decide +kernel
theorem dX9_old_25 : decode cX9_old 25 = .ok (.ireturn, 1) := by decide +kernel
theorem dX9_old_26 : decode cX9_old 26 = .ok (.iconst 0, 1) := by decide +kernel
theorem dX9_old_27 : decode cX9_old 27 = .ok (.istore 5, 2) := by decide +kernel
theorem dX9_old_29 : decode cX9_old 29 = .ok (.iconst 0, 1) := by decide +kernel
theorem dX9_old_30 : decode cX9_old 30 = .ok (.istore 6, 2) := by decide +kernel
theorem dX9_old_32 : decode cX9_old 32 = .ok (.iload 6, 2) := by decide +kernel
theorem dX9_old_34 : decode cX9_old 34 = .ok (.aload_n 0, 1) := by decide +kernel
theorem dX9_old_35 : decode cX9_old 35 = .ok (.getfield 29, 3) := by decide +kernel
theorem dX9_old_38 : decode cX9_old 38 = .ok (.if_icmp .ge 62, 3) := by decide +kernel
theorem dX9_old_41 : decode cX9_old 41 = .ok (.aload_n 0, 1) := by decide +kernel
theorem dX9_old_42 : decode cX9_old 42 = .ok (.getfield 32, 3) := by decide +kernel
theorem dX9_old_45 : decode cX9_old 45 = .ok (.iload 6, 2) := by decide +kernel
theorem dX9_old_47 : decode cX9_old 47 = .ok (.aaload, 1) := by decide +kernel
theorem dX9_old_48 : decode cX9_old 48 = .ok (.astore 7, 2) := by decide +kernel
theorem dX9_old_50 : decode cX9_old 50 = .ok (.aload 7, 2) := by decide +kernel
theorem dX9_old_52 : decode cX9_old 52 = .ok (.getfield 172, 3) := by decide +kernel
theorem dX9_old_55 : decode cX9_old 55 = .ok (.iload_n 1, 1) := by decide +kernel
theorem dX9_old_56 : decode cX9_old 56 = .ok (.invokestatic 292, 3) := by decide +kernel
theorem dX9_old_59 : decode cX9_old 59 = .ok (.ifCond .eq 35, 3) := by decide +kernel
theorem dX9_old_62 : decode cX9_old 62 = .ok (.aload 7, 2) := by decide +kernel
theorem dX9_old_64 : decode cX9_old 64 = .ok (.getfield 166, 3) := by decide +kernel
theorem dX9_old_67 : decode cX9_old 67 = .ok (.getfield 131, 3) := by decide +kernel
theorem dX9_old_70 : decode cX9_old 70 = .ok (.iload_n 2, 1) := by decide +kernel
theorem dX9_old_71 : decode cX9_old 71 = .ok (.iload_n 3, 1) := by decide +kernel
theorem dX9_old_72 : decode cX9_old 72 = .ok (.invokestatic 95, 3) := by decide +kernel
theorem dX9_old_75 : decode cX9_old 75 = .ok (.ifCond .eq 19, 3) := by decide +kernel
theorem dX9_old_78 : decode cX9_old 78 = .ok (.iload 5, 2) := by decide +kernel
theorem dX9_old_80 : decode cX9_old 80 = .ok (.iload 4, 2) := by decide +kernel
theorem dX9_old_82 : decode cX9_old 82 = .ok (.if_icmp .ne 9, 3) := by decide +kernel
theorem dX9_old_85 : decode cX9_old 85 = .ok (.aload 7, 2) := by decide +kernel
theorem dX9_old_87 : decode cX9_old 87 = .ok (.getfield 324, 3) := by decide +kernel
theorem dX9_old_90 : decode cX9_old 90 = .ok (.ireturn, 1) := by decide +kernel
theorem dX9_old_91 : decode cX9_old 91 = .ok (.iinc 5 1, 3) := by decide +kernel
theorem dX9_old_94 : decode cX9_old 94 = .ok (.iinc 6 1, 3) := by decide +kernel
theorem dX9_old_97 : decode cX9_old 97 = .ok (.goto (-65), 3) := by decide +kernel
theorem dX9_old_100 : decode cX9_old 100 = .ok (.iload 4, 2) := by decide +kernel
theorem dX9_old_102 : decode cX9_old 102 = .ok (.iconst (-1), 1) := by decide +kernel
theorem dX9_old_103 : decode cX9_old 103 = .ok (.if_icmp .ne 8, 3) := by decide +kernel
theorem dX9_old_106 : decode cX9_old 106 = .ok (.iload 5, 2) := by decide +kernel
theorem dX9_old_108 : decode cX9_old 108 = .ok (.goto 5, 3) := by decide +kernel
theorem dX9_old_111 : decode cX9_old 111 = .ok (.bipush (-6), 2) := by decide +kernel
theorem dX9_old_113 : decode cX9_old 113 = .ok (.ireturn, 1) := by decide +kernel
theorem dX9_countSent_0 : decode cX9_countSent 0 = .ok (.iconst 0, 1) := by decide +kernel
theorem dX9_countSent_1 : decode cX9_countSent 1 = .ok (.istore_n 1, 1) := by decide +kernel
theorem dX9_countSent_2 : decode cX9_countSent 2 = .ok (.iconst 0, 1) := by decide +kernel
theorem dX9_countSent_3 : decode cX9_countSent 3 = .ok (.istore_n 2, 1) := by decide +kernel
theorem dX9_countSent_4 : decode cX9_countSent 4 = .ok (.iload_n 2, 1) := by decide +kernel
theorem dX9_countSent_5 : decode cX9_countSent 5 = .ok (.aload_n 0, 1) := by decide +kernel
theorem dX9_countSent_6 : decode cX9_countSent 6 = .ok (.getfield 29, 3) := by decide +kernel
theorem dX9_countSent_9 : decode cX9_countSent 9 = .ok (.if_icmp .ge 24, 3) := by decide +kernel
theorem dX9_countSent_12 : decode cX9_countSent 12 = .ok (.iload_n 1, 1) := by decide +kernel
theorem dX9_countSent_13 : decode cX9_countSent 13 = .ok (.aload_n 0, 1) := by decide +kernel
theorem dX9_countSent_14 : decode cX9_countSent 14 = .ok (.getfield 25, 3) := by decide +kernel
theorem dX9_countSent_17 : decode cX9_countSent 17 = .ok (.iload_n 2, 1) := by decide +kernel
theorem dX9_countSent_18 : decode cX9_countSent 18 = .ok (.aaload, 1) := by decide +kernel
theorem dX9_countSent_19 : decode cX9_countSent 19 = .ok (.getfield 174, 3) := by decide +kernel
theorem dX9_countSent_22 : decode cX9_countSent 22 = .ok (.invokestatic 268, 3) := by decide +kernel
theorem dX9_countSent_25 : decode cX9_countSent 25 = .ok (.iadd, 1) := by decide +kernel
theorem dX9_countSent_26 : decode cX9_countSent 26 = .ok (.istore_n 1, 1) := by decide +kernel
theorem dX9_countSent_27 : decode cX9_countSent 27 = .ok (.iinc 2 1, 3) := by decide +kernel
theorem dX9_countSent_30 : decode cX9_countSent 30 = .ok (.goto (-26), 3) := by decide +kernel
theorem dX9_countSent_33 : decode cX9_countSent 33 = .ok (.iload_n 1, 1) := by decide +kernel
theorem dX9_countSent_34 : decode cX9_countSent 34 = .ok (.ireturn, 1) := by decide +kernel
theorem dX9_countMissed_0 : decode cX9_countMissed 0 = .ok (.iconst 0, 1) := by decide +kernel
theorem dX9_countMissed_1 : decode cX9_countMissed 1 = .ok (.istore_n 1, 1) := by decide +kernel
theorem dX9_countMissed_2 : decode cX9_countMissed 2 = .ok (.iconst 0, 1) := by decide +kernel
theorem dX9_countMissed_3 : decode cX9_countMissed 3 = .ok (.istore_n 2, 1) := by decide +kernel
theorem dX9_countMissed_4 : decode cX9_countMissed 4 = .ok (.iload_n 2, 1) := by decide +kernel
theorem dX9_countMissed_5 : decode cX9_countMissed 5 = .ok (.bipush 6, 2) := by decide +kernel
theorem dX9_countMissed_7 : decode cX9_countMissed 7 = .ok (.if_icmp .ge 18, 3) := by decide +kernel
theorem dX9_countMissed_10 : decode cX9_countMissed 10 = .ok (.iload_n 1, 1) := by decide +kernel
theorem dX9_countMissed_11 : decode cX9_countMissed 11 = .ok (.aload_n 0, 1) := by decide +kernel
theorem dX9_countMissed_12 : decode cX9_countMissed 12 = .ok (.getfield 90, 3) := by decide +kernel
theorem dX9_countMissed_15 : decode cX9_countMissed 15 = .ok (.iload_n 2, 1) := by decide +kernel
theorem dX9_countMissed_16 : decode cX9_countMissed 16 = .ok (.iaload, 1) := by decide +kernel
theorem dX9_countMissed_17 : decode cX9_countMissed 17 = .ok (.iadd, 1) := by decide +kernel
theorem dX9_countMissed_18 : decode cX9_countMissed 18 = .ok (.istore_n 1, 1) := by decide +kernel
theorem dX9_countMissed_19 : decode cX9_countMissed 19 = .ok (.iinc 2 1, 3) := by decide +kernel
theorem dX9_countMissed_22 : decode cX9_countMissed 22 = .ok (.goto (-18), 3) := by decide +kernel
theorem dX9_countMissed_25 : decode cX9_countMissed 25 = .ok (.iload_n 1, 1) := by decide +kernel
theorem dX9_countMissed_26 : decode cX9_countMissed 26 = .ok (.ireturn, 1) := by decide +kernel
theorem dX9_told_0 : decode cX9_told 0 = .ok (.iload_n 1, 1) := by decide +kernel
theorem dX9_told_1 : decode cX9_told 1 = .ok (.bipush 10, 2) := by decide +kernel
theorem dX9_told_3 : decode cX9_told 3 = .ok (.bipush 18, 2) := by decide +kernel
theorem dX9_told_5 : decode cX9_told 5 = .ok (.invokestatic 95, 3) := by decide +kernel
theorem dX9_told_8 : decode cX9_told 8 = .ok (.ifCond .eq 13, 3) := by decide +kernel
theorem dX9_told_11 : decode cX9_told 11 = .ok (.aload_n 0, 1) := by decide +kernel
theorem dX9_told_12 : decode cX9_told 12 = .ok (.getfield 7, 3) := by decide +kernel
theorem dX9_told_15 : decode cX9_told 15 = .ok (.iload_n 1, 1) := by decide +kernel
theorem dX9_told_16 : decode cX9_told 16 = .ok (.bipush 10, 2) := by decide +kernel
theorem dX9_told_18 : decode cX9_told 18 = .ok (.isub, 1) := by decide +kernel
theorem dX9_told_19 : decode cX9_told 19 = .ok (.iaload, 1) := by decide +kernel
theorem dX9_told_20 : decode cX9_told 20 = .ok (.ireturn, 1) := by decide +kernel
theorem dX9_told_21 : decode cX9_told 21 = .ok (.iload_n 1, 1) := by decide +kernel
theorem dX9_told_22 : decode cX9_told 22 = .ok (.tableswitch 71 0 5 #[38, 43, 48, 53, 61, 66], 38) := by decide +kernel
theorem dX9_told_60 : decode cX9_told 60 = .ok (.aload_n 0, 1) := by decide +kernel
theorem dX9_told_61 : decode cX9_told 61 = .ok (.getfield 19, 3) := by decide +kernel
theorem dX9_told_64 : decode cX9_told 64 = .ok (.ireturn, 1) := by decide +kernel
theorem dX9_told_65 : decode cX9_told 65 = .ok (.aload_n 0, 1) := by decide +kernel
theorem dX9_told_66 : decode cX9_told 66 = .ok (.getfield 29, 3) := by decide +kernel
theorem dX9_told_69 : decode cX9_told 69 = .ok (.ireturn, 1) := by decide +kernel
theorem dX9_told_70 : decode cX9_told 70 = .ok (.aload_n 0, 1) := by decide +kernel
theorem dX9_told_71 : decode cX9_told 71 = .ok (.getfield 41, 3) := by decide +kernel
theorem dX9_told_74 : decode cX9_told 74 = .ok (.ireturn, 1) := by decide +kernel
theorem dX9_told_75 : decode cX9_told 75 = .ok (.aload_n 0, 1) := by decide +kernel
theorem dX9_told_76 : decode cX9_told 76 = .ok (.getfield 47, 3) := by decide +kernel
theorem dX9_told_79 : decode cX9_told 79 = .ok (.getfield 192, 3) := by decide +kernel
theorem dX9_told_82 : decode cX9_told 82 = .ok (.ireturn, 1) := by decide +kernel
theorem dX9_told_83 : decode cX9_told 83 = .ok (.aload_n 0, 1) := by decide +kernel
theorem dX9_told_84 : decode cX9_told 84 = .ok (.invokevirtual 325, 3) := by decide +kernel
theorem dX9_told_87 : decode cX9_told 87 = .ok (.ireturn, 1) := by decide +kernel
theorem dX9_told_88 : decode cX9_told 88 = .ok (.aload_n 0, 1) := by decide +kernel
theorem dX9_told_89 : decode cX9_told 89 = .ok (.invokevirtual 328, 3) := by decide +kernel
theorem dX9_told_92 : decode cX9_told 92 = .ok (.ireturn, 1) := by decide +kernel
theorem dX9_told_93 : decode cX9_told 93 = .ok (.bipush (-2), 2) := by decide +kernel
theorem dX9_told_95 : decode cX9_told 95 = .ok (.ireturn, 1) := by decide +kernel
