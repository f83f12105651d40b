theorem dX6_in_0 : decode cX6_in 0 = .ok (.lload_n 0, 1) := by decide +kernel
theorem dX6_in_1 : decode cX6_in 1 = .ok (.lload_n 2, 1) := by decide +kernel
theorem dX6_in_2 : decode cX6_in 2 = .ok (.lcmp, 1) := by decide +kernel
theorem dX6_in_3 : decode cX6_in 3 = .ok (.ifCond .lt 14, 3) := by decide +kernel
theorem dX6_in_6 : decode cX6_in 6 = .ok (.lload_n 0, 1) := by decide +kernel
theorem dX6_in_7 : decode cX6_in 7 = .ok (.lload 4, 2) := by decide +kernel
theorem dX6_in_9 : decode cX6_in 9 = .ok (.lcmp, 1) := by decide +kernel
theorem dX6_in_10 : decode cX6_in 10 = .ok (.ifCond .gt 7, 3) := by decide +kernel
theorem dX6_in_13 : decode cX6_in 13 = .ok (.iconst 1, 1) := by decide +kernel
theorem dX6_in_14 : decode cX6_in 14 = .ok (.goto 4, 3) := by decide +kernel
theorem dX6_in_17 : decode cX6_in 17 = .ok (.iconst 0, 1) := by decide +kernel
theorem dX6_in_18 : decode cX6_in 18 = .ok (.ireturn, 1) := by decide +kernel
theorem dX6_init_0 : decode cX6_init 0 = .ok (.aload_n 0, 1) := by decide +kernel
theorem dX6_init_1 : decode cX6_init 1 = .ok (.invokespecial 1, 3) := by decide +kernel
theorem dX6_init_4 : decode cX6_init 4 = .ok (.aload_n 0, 1) := by decide +kernel
theorem dX6_init_5 : decode cX6_init 5 = .ok (.bipush 16, 2) := by decide +kernel
theorem dX6_init_7 : decode cX6_init 7 = .ok (.newarray .int, 2) := by decide +kernel
theorem dX6_init_9 : decode cX6_init 9 = .ok (.putfield 7, 3) := by decide +kernel
theorem dX6_init_12 : decode cX6_init 12 = .ok (.aload_n 0, 1) := by decide +kernel
theorem dX6_init_13 : decode cX6_init 13 = .ok (.bipush 16, 2) := by decide +kernel
theorem dX6_init_15 : decode cX6_init 15 = .ok (.newarray .boolean, 2) := by decide +kernel
theorem dX6_init_17 : decode cX6_init 17 = .ok (.putfield 13, 3) := by decide +kernel
theorem dX6_init_20 : decode cX6_init 20 = .ok (.aload_n 0, 1) := by decide +kernel
theorem dX6_init_21 : decode cX6_init 21 = .ok (.bipush 16, 2) := by decide +kernel
theorem dX6_init_23 : decode cX6_init 23 = .ok (.newarray .int, 2) := by decide +kernel
theorem dX6_init_25 : decode cX6_init 25 = .ok (.putfield 17, 3) := by decide +kernel
theorem dX6_init_28 : decode cX6_init 28 = .ok (.aload_n 0, 1) := by decide +kernel
theorem dX6_init_29 : decode cX6_init 29 = .ok (.sipush 960, 3) := by decide +kernel
theorem dX6_init_32 : decode cX6_init 32 = .ok (.newarray .int, 2) := by decide +kernel
theorem dX6_init_34 : decode cX6_init 34 = .ok (.putfield 20, 3) := by decide +kernel
theorem dX6_init_37 : decode cX6_init 37 = .ok (.aload_n 0, 1) := by decide +kernel
theorem dX6_init_38 : decode cX6_init 38 = .ok (.bipush 8, 2) := by decide +kernel
theorem dX6_init_40 : decode cX6_init 40 = .ok (.newarray .int, 2) := by decide +kernel
theorem dX6_init_42 : decode cX6_init 42 = .ok (.putfield 23, 3) := by decide +kernel
theorem dX6_init_45 : decode cX6_init 45 = .ok (.aload_n 0, 1) := by decide +kernel
theorem dX6_init_46 : decode cX6_init 46 = .ok (.bipush 8, 2) := by decide +kernel
theorem dX6_init_48 : decode cX6_init 48 = .ok (.newarray .int, 2) := by decide +kernel
theorem dX6_init_50 : decode cX6_init 50 = .ok (.putfield 26, 3) := by decide +kernel
theorem dX6_init_53 : decode cX6_init 53 = .ok (.aload_n 0, 1) := by decide +kernel
theorem dX6_init_54 : decode cX6_init 54 = .ok (.bipush 8, 2) := by decide +kernel
theorem dX6_init_56 : decode cX6_init 56 = .ok (.newarray .int, 2) := by decide +kernel
theorem dX6_init_58 : decode cX6_init 58 = .ok (.putfield 29, 3) := by decide +kernel
theorem dX6_init_61 : decode cX6_init 61 = .ok (.aload_n 0, 1) := by decide +kernel
theorem dX6_init_62 : decode cX6_init 62 = .ok (.bipush 60, 2) := by decide +kernel
theorem dX6_init_64 : decode cX6_init 64 = .ok (.newarray .int, 2) := by decide +kernel
theorem dX6_init_66 : decode cX6_init 66 = .ok (.putfield 32, 3) := by decide +kernel
theorem dX6_init_69 : decode cX6_init 69 = .ok (.aload_n 0, 1) := by decide +kernel
theorem dX6_init_70 : decode cX6_init 70 = .ok (.bipush 60, 2) := by decide +kernel
theorem dX6_init_72 : decode cX6_init 72 = .ok (.newarray .int, 2) := by decide +kernel
theorem dX6_init_74 : decode cX6_init 74 = .ok (.putfield 35, 3) := by decide +kernel
theorem dX6_init_77 : decode cX6_init 77 = .ok (.aload_n 0, 1) := by decide +kernel
theorem dX6_init_78 : decode cX6_init 78 = .ok (.bipush 60, 2) := by decide +kernel
theorem dX6_init_80 : decode cX6_init 80 = .ok (.newarray .int, 2) := by decide +kernel
theorem dX6_init_82 : decode cX6_init 82 = .ok (.putfield 38, 3) := by decide +kernel
theorem dX6_init_85 : decode cX6_init 85 = .ok (.aload_n 0, 1) := by decide +kernel
theorem dX6_init_86 : decode cX6_init 86 = .ok (.bipush 60, 2) := by decide +kernel
theorem dX6_init_88 : decode cX6_init 88 = .ok (.newarray .int, 2) := by decide +kernel
theorem dX6_init_90 : decode cX6_init 90 = .ok (.putfield 41, 3) := by decide +kernel
theorem dX6_init_93 : decode cX6_init 93 = .ok (.aload_n 0, 1) := by decide +kernel
theorem dX6_init_94 : decode cX6_init 94 = .ok (.bipush 60, 2) := by decide +kernel
theorem dX6_init_96 : decode cX6_init 96 = .ok (.newarray .int, 2) := by decide +kernel
theorem dX6_init_98 : decode cX6_init 98 = .ok (.putfield 44, 3) := by decide +kernel
theorem dX6_init_101 : decode cX6_init 101 = .ok (.aload_n 0, 1) := by decide +kernel
theorem dX6_init_102 : decode cX6_init 102 = .ok (.bipush 60, 2) := by decide +kernel
theorem dX6_init_104 : decode cX6_init 104 = .ok (.newarray .int, 2) := by decide +kernel
theorem dX6_init_106 : decode cX6_init 106 = .ok (.putfield 47, 3) := by decide +kernel
theorem dX6_init_109 : decode cX6_init 109 = .ok (.aload_n 0, 1) := by decide +kernel
theorem dX6_init_110 : decode cX6_init 110 = .ok (.bipush 60, 2) := by decide +kernel
theorem dX6_init_112 : decode cX6_init 112 = .ok (.newarray .int, 2) := by decide +kernel
theorem dX6_init_114 : decode cX6_init 114 = .ok (.putfield 50, 3) := by decide +kernel
theorem dX6_init_117 : decode cX6_init 117 = .ok (.aload_n 0, 1) := by decide +kernel
theorem dX6_init_118 : decode cX6_init 118 = .ok (.bipush 60, 2) := by decide +kernel
theorem dX6_init_120 : decode cX6_init 120 = .ok (.newarray .boolean, 2) := by decide +kernel
theorem dX6_init_122 : decode cX6_init 122 = .ok (.putfield 53, 3) := by decide +kernel
theorem dX6_init_125 : decode cX6_init 125 = .ok (.aload_n 0, 1) := by decide +kernel
theorem dX6_init_126 : decode cX6_init 126 = .ok (.bipush 60, 2) := by decide +kernel
theorem dX6_init_128 : decode cX6_init 128 = .ok (.newarray .boolean, 2) := by decide +kernel
theorem dX6_init_130 : decode cX6_init 130 = .ok (.putfield 56, 3) := by decide +kernel
theorem dX6_init_133 : decode cX6_init 133 = .ok (.aload_n 0, 1) := by decide +kernel
theorem dX6_init_134 : decode cX6_init 134 = .ok (.bipush 60, 2) := by decide +kernel
theorem dX6_init_136 : decode cX6_init 136 = .ok (.newarray .boolean, 2) := by decide +kernel
theorem dX6_init_138 : decode cX6_init 138 = .ok (.putfield 59, 3) := by decide +kernel
theorem dX6_init_141 : decode cX6_init 141 = .ok (.aload_n 0, 1) := by decide +kernel
theorem dX6_init_142 : decode cX6_init 142 = .ok (.bipush 16, 2) := by decide +kernel
theorem dX6_init_144 : decode cX6_init 144 = .ok (.newarray .int, 2) := by decide +kernel
theorem dX6_init_146 : decode cX6_init 146 = .ok (.putfield 62, 3) := by decide +kernel
theorem dX6_init_149 : decode cX6_init 149 = .ok (.aload_n 0, 1) := by decide +kernel
theorem dX6_init_150 : decode cX6_init 150 = .ok (.bipush 16, 2) := by decide +kernel
theorem dX6_init_152 : decode cX6_init 152 = .ok (.newarray .int, 2) := by decide +kernel
theorem dX6_init_154 : decode cX6_init 154 = .ok (.putfield 65, 3) := by decide +kernel
theorem dX6_init_157 : decode cX6_init 157 = .ok (.aload_n 0, 1) := by decide +kernel
theorem dX6_init_158 : decode cX6_init 158 = .ok (.bipush 16, 2) := by decide +kernel
theorem dX6_init_160 : decode cX6_init 160 = .ok (.newarray .int, 2) := by decide +kernel
theorem dX6_init_162 : decode cX6_init 162 = .ok (.putfield 68, 3) := by decide +kernel
theorem dX6_init_165 : decode cX6_init 165 = .ok (.aload_n 0, 1) := by decide +kernel
theorem dX6_init_166 : decode cX6_init 166 = .ok (.iconst 4, 1) := by decide +kernel
theorem dX6_init_167 : decode cX6_init 167 = .ok (.newarray .int, 2) := by decide +kernel
theorem dX6_init_169 : decode cX6_init 169 = .ok (.putfield 71, 3) := by decide +kernel
theorem dX6_init_172 : decode cX6_init 172 = .ok (.aload_n 0, 1) := by decide +kernel
theorem dX6_init_173 : decode cX6_init 173 = .ok (.iconst 4, 1) := by decide +kernel
theorem dX6_init_174 : decode cX6_init 174 = .ok (.newarray .int, 2) := by decide +kernel
theorem dX6_init_176 : decode cX6_init 176 = .ok (.putfield 74, 3) := by decide +kernel
theorem dX6_init_179 : decode cX6_init 179 = .ok (.aload_n 0, 1) := by decide +kernel
theorem dX6_init_180 : decode cX6_init 180 = .ok (.iconst 4, 1) := by decide +kernel
theorem dX6_init_181 : decode cX6_init 181 = .ok (.newarray .int, 2) := by decide +kernel
theorem dX6_init_183 : decode cX6_init 183 = .ok (.putfield 77, 3) := by decide +kernel
theorem dX6_init_186 : decode cX6_init 186 = .ok (.aload_n 0, 1) := by decide +kernel
theorem dX6_init_187 : decode cX6_init 187 = .ok (.sipush 144, 3) := by decide +kernel
theorem dX6_init_190 : decode cX6_init 190 = .ok (.newarray .int, 2) := by decide +kernel
theorem dX6_init_192 : decode cX6_init 192 = .ok (.putfield 80, 3) := by decide +kernel
theorem dX6_init_195 : decode cX6_init 195 = .ok (.iconst 0, 1) := by decide +kernel
theorem dX6_init_196 : decode cX6_init 196 = .ok (.istore_n 1, 1) := by decide +kernel
theorem dX6_init_197 : decode cX6_init 197 = .ok (.iload_n 1, 1) := by decide +kernel
theorem dX6_init_198 : decode cX6_init 198 = .ok (.iconst 4, 1) := by decide +kernel
theorem dX6_init_199 : decode cX6_init 199 = .ok (.if_icmp .ge 16, 3) := by decide +kernel
theorem dX6_init_202 : decode cX6_init 202 = .ok (.aload_n 0, 1) := by decide +kernel
theorem dX6_init_203 : decode cX6_init 203 = .ok (.getfield 74, 3) := by decide +kernel
theorem dX6_init_206 : decode cX6_init 206 = .ok (.iload_n 1, 1) := by decide +kernel
theorem dX6_init_207 : decode cX6_init 207 = .ok (.iconst (-1), 1) := by decide +kernel
theorem dX6_init_208 : decode cX6_init 208 = .ok (.iastore, 1) := by decide +kernel
theorem dX6_init_209 : decode cX6_init 209 = .ok (.iinc 1 1, 3) := by decide +kernel
theorem dX6_init_212 : decode cX6_init 212 = .ok (.goto (-15), 3) := by decide +kernel
theorem dX6_init_215 : decode cX6_init 215 = .ok (.return_, 1) := by decide +kernel
theorem dX6_isPerson_0 : decode cX6_isPerson 0 = .ok (.iload_n 1, 1) := by decide +kernel
theorem dX6_isPerson_1 : decode cX6_isPerson 1 = .ok (.i2l, 1) := by decide +kernel
theorem dX6_isPerson_2 : decode cX6_isPerson 2 = .ok (.lconst 0, 1) := by decide +kernel
theorem dX6_isPerson_3 : decode cX6_isPerson 3 = .ok (.aload_n 0, 1) := by decide +kernel
theorem dX6_isPerson_4 : decode cX6_isPerson 4 = .ok (.getfield 83, 3) := by decide +kernel
theorem dX6_isPerson_7 : decode cX6_isPerson 7 = .ok (.iconst 1, 1) := by decide +kernel
theorem dX6_isPerson_8 : decode cX6_isPerson 8 = .ok (.isub, 1) := by decide +kernel
theorem dX6_isPerson_9 : decode cX6_isPerson 9 = .ok (.i2l, 1) := by decide +kernel
theorem dX6_isPerson_10 : decode cX6_isPerson 10 = .ok (.invokestatic 87, 3) := by decide +kernel
theorem dX6_isPerson_13 : decode cX6_isPerson 13 = .ok (.ireturn, 1) := by decide +kernel
theorem dX6_isOld_0 : decode cX6_isOld 0 = .ok (.aload_n 0, 1) := by decide +kernel
theorem dX6_isOld_1 : decode cX6_isOld 1 = .ok (.getfield 13, 3) := by decide +kernel
theorem dX6_isOld_4 : decode cX6_isOld 4 = .ok (.iload_n 1, 1) := by decide +kernel
theorem dX6_isOld_5 : decode cX6_isOld 5 = .ok (.baload, 1) := by decide +kernel
theorem dX6_isOld_6 : decode cX6_isOld 6 = .ok (.ifCond .eq 18, 3) := by decide +kernel
theorem dX6_isOld_9 : decode cX6_isOld 9 = .ok (.aload_n 0, 1) := by decide +kernel
theorem dX6_isOld_10 : decode cX6_isOld 10 = .ok (.getfield 7, 3) := by decide +kernel
theorem dX6_isOld_13 : decode cX6_isOld 13 = .ok (.iload_n 1, 1) := by decide +kernel
theorem dX6_isOld_14 : decode cX6_isOld 14 = .ok (.iaload, 1) := by decide +kernel
theorem dX6_isOld_15 : decode cX6_isOld 15 = .ok (.bipush 40, 2) := by decide +kernel
theorem dX6_isOld_17 : decode cX6_isOld 17 = .ok (.if_icmp .lt 7, 3) := by decide +kernel
theorem dX6_isOld_20 : decode cX6_isOld 20 = .ok (.iconst 1, 1) := by decide +kernel
theorem dX6_isOld_21 : decode cX6_isOld 21 = .ok (.goto 4, 3) := by decide +kernel
theorem dX6_isOld_24 : decode cX6_isOld 24 = .ok (.iconst 0, 1) := by decide +kernel
theorem dX6_isOld_25 : decode cX6_isOld 25 = .ok (.ireturn, 1) := by decide +kernel
theorem dX6_livingBits_0 : decode cX6_livingBits 0 = .ok (.iconst 0, 1) := by decide +kernel
theorem dX6_livingBits_1 : decode cX6_livingBits 1 = .ok (.istore_n 1, 1) := by decide +kernel
theorem dX6_livingBits_2 : decode cX6_livingBits 2 = .ok (.iconst 0, 1) := by decide +kernel
theorem dX6_livingBits_3 : decode cX6_livingBits 3 = .ok (.istore_n 2, 1) := by decide +kernel
theorem dX6_livingBits_4 : decode cX6_livingBits 4 = .ok (.iload_n 2, 1) := by decide +kernel
theorem dX6_livingBits_5 : decode cX6_livingBits 5 = .ok (.aload_n 0, 1) := by decide +kernel
theorem dX6_livingBits_6 : decode cX6_livingBits 6 = .ok (.getfield 83, 3) := by decide +kernel
theorem dX6_livingBits_9 : decode cX6_livingBits 9 = .ok (.if_icmp .ge 28, 3) := by decide +kernel
theorem dX6_livingBits_12 : decode cX6_livingBits 12 = .ok (.iload_n 1, 1) := by decide +kernel
theorem dX6_livingBits_13 : decode cX6_livingBits 13 = .ok (.aload_n 0, 1) := by decide +kernel
theorem dX6_livingBits_14 : decode cX6_livingBits 14 = .ok (.getfield 13, 3) := by decide +kernel
theorem dX6_livingBits_17 : decode cX6_livingBits 17 = .ok (.iload_n 2, 1) := by decide +kernel
theorem dX6_livingBits_18 : decode cX6_livingBits 18 = .ok (.baload, 1) := by decide +kernel
theorem dX6_livingBits_19 : decode cX6_livingBits 19 = .ok (.ifCond .eq 9, 3) := by decide +kernel
theorem dX6_livingBits_22 : decode cX6_livingBits 22 = .ok (.iconst 1, 1) := by decide +kernel
theorem dX6_livingBits_23 : decode cX6_livingBits 23 = .ok (.iload_n 2, 1) := by decide +kernel
theorem dX6_livingBits_24 : decode cX6_livingBits 24 = .ok (.ishl, 1) := by decide +kernel
theorem dX6_livingBits_25 : decode cX6_livingBits 25 = .ok (.goto 4, 3) := by decide +kernel
theorem dX6_livingBits_28 : decode cX6_livingBits 28 = .ok (.iconst 0, 1) := by decide +kernel
theorem dX6_livingBits_29 : decode cX6_livingBits 29 = .ok (.ior, 1) := by decide +kernel
theorem dX6_livingBits_30 : decode cX6_livingBits 30 = .ok (.istore_n 1, 1) := by decide +kernel
theorem dX6_livingBits_31 : decode cX6_livingBits 31 = .ok (.iinc 2 1, 3) := by decide +kernel
theorem dX6_livingBits_34 : decode cX6_livingBits 34 = .ok (.goto (-30), 3) := by decide +kernel
theorem dX6_livingBits_37 : decode cX6_livingBits 37 = .ok (.iload_n 1, 1) := by decide +kernel
theorem dX6_livingBits_38 : decode cX6_livingBits 38 = .ok (.ireturn, 1) := by decide +kernel
theorem dX6_oldMany_0 : decode cX6_oldMany 0 = .ok (.iconst 0, 1) := by decide +kernel
theorem dX6_oldMany_1 : decode cX6_oldMany 1 = .ok (.istore_n 1, 1) := by decide +kernel
theorem dX6_oldMany_2 : decode cX6_oldMany 2 = .ok (.iconst 0, 1) := by decide +kernel
theorem dX6_oldMany_3 : decode cX6_oldMany 3 = .ok (.istore_n 2, 1) := by decide +kernel
theorem dX6_oldMany_4 : decode cX6_oldMany 4 = .ok (.iload_n 2, 1) := by decide +kernel
theorem dX6_oldMany_5 : decode cX6_oldMany 5 = .ok (.aload_n 0, 1) := by decide +kernel
theorem dX6_oldMany_6 : decode cX6_oldMany 6 = .ok (.getfield 83, 3) := by decide +kernel
theorem dX6_oldMany_9 : decode cX6_oldMany 9 = .ok (.if_icmp .ge 25, 3) := by decide +kernel
theorem dX6_oldMany_12 : decode cX6_oldMany 12 = .ok (.iload_n 1, 1) := by decide +kernel
theorem dX6_oldMany_13 : decode cX6_oldMany 13 = .ok (.aload_n 0, 1) := by decide +kernel
theorem dX6_oldMany_14 : decode cX6_oldMany 14 = .ok (.iload_n 2, 1) := by decide +kernel
theorem dX6_oldMany_15 : decode cX6_oldMany 15 = .ok (.invokevirtual 91, 3) := by decide +kernel
theorem dX6_oldMany_18 : decode cX6_oldMany 18 = .ok (.ifCond .eq 7, 3) := by decide +kernel
theorem dX6_oldMany_21 : decode cX6_oldMany 21 = .ok (.iconst 1, 1) := by decide +kernel
theorem dX6_oldMany_22 : decode cX6_oldMany 22 = .ok (.goto 4, 3) := by decide +kernel
theorem dX6_oldMany_25 : decode cX6_oldMany 25 = .ok (.iconst 0, 1) := by decide +kernel
theorem dX6_oldMany_26 : decode cX6_oldMany 26 = .ok (.iadd, 1) := by decide +kernel
theorem dX6_oldMany_27 : decode cX6_oldMany 27 = .ok (.istore_n 1, 1) := by decide +kernel
theorem dX6_oldMany_28 : decode cX6_oldMany 28 = .ok (.iinc 2 1, 3) := by decide +kernel
theorem dX6_oldMany_31 : decode cX6_oldMany 31 = .ok (.goto (-27), 3) := by decide +kernel
theorem dX6_oldMany_34 : decode cX6_oldMany 34 = .ok (.iload_n 1, 1) := by decide +kernel
theorem dX6_oldMany_35 : decode cX6_oldMany 35 = .ok (.ireturn, 1) := by decide +kernel
theorem dX6_person_0 : decode cX6_person 0 = .ok (.iload_n 1, 1) := by decide +kernel
theorem dX6_person_1 : decode cX6_person 1 = .ok (.i2l, 1) := by decide +kernel
theorem dX6_person_2 : decode cX6_person 2 = .ok (.lconst 0, 1) := by decide +kernel
theorem dX6_person_3 : decode cX6_person 3 = .ok (.ldc2_w 95, 3) := by decide +kernel
theorem dX6_person_6 : decode cX6_person 6 = .ok (.invokestatic 87, 3) := by decide +kernel
theorem dX6_person_9 : decode cX6_person 9 = .ok (.ifCond .ne 5, 3) := by decide +kernel
theorem dX6_person_12 : decode cX6_person 12 = .ok (.iconst (-1), 1) := by decide +kernel
theorem dX6_person_13 : decode cX6_person 13 = .ok (.ireturn, 1) := by decide +kernel
theorem dX6_person_14 : decode cX6_person 14 = .ok (.aload_n 0, 1) := by decide +kernel
theorem dX6_person_15 : decode cX6_person 15 = .ok (.getfield 83, 3) := by decide +kernel
theorem dX6_person_18 : decode cX6_person 18 = .ok (.bipush 16, 2) := by decide +kernel
theorem dX6_person_20 : decode cX6_person 20 = .ok (.if_icmp .ne 6, 3) := by decide +kernel
theorem dX6_person_23 : decode cX6_person 23 = .ok (.bipush (-3), 2) := by decide +kernel
theorem dX6_person_25 : decode cX6_person 25 = .ok (.ireturn, 1) := by decide +kernel
theorem dX6_person_26 : decode cX6_person 26 = .ok (.aload_n 0, 1) := by decide +kernel
theorem dX6_person_27 : decode cX6_person 27 = .ok (.getfield 7, 3) := by decide +kernel
theorem dX6_person_30 : decode cX6_person 30 = .ok (.aload_n 0, 1) := by decide +kernel
theorem dX6_person_31 : decode cX6_person 31 = .ok (.getfield 83, 3) := by decide +kernel
theorem dX6_person_34 : decode cX6_person 34 = .ok (.iload_n 1, 1) := by decide +kernel
theorem dX6_person_35 : decode cX6_person 35 = .ok (.iastore, 1) := by decide +kernel
theorem dX6_person_36 : decode cX6_person 36 = .ok (.aload_n 0, 1) := by decide +kernel
theorem dX6_person_37 : decode cX6_person 37 = .ok (.getfield 13, 3) := by decide +kernel
theorem dX6_person_40 : decode cX6_person 40 = .ok (.aload_n 0, 1) := by decide +kernel
theorem dX6_person_41 : decode cX6_person 41 = .ok (.getfield 83, 3) := by decide +kernel
theorem dX6_person_44 : decode cX6_person 44 = .ok (.iconst 1, 1) := by decide +kernel
theorem dX6_person_45 : decode cX6_person 45 = .ok (.bastore, 1) := by decide +kernel
theorem dX6_person_46 : decode cX6_person 46 = .ok (.aload_n 0, 1) := by decide +kernel
theorem dX6_person_47 : decode cX6_person 47 = .ok (.dup, 1) := by decide +kernel
theorem dX6_person_48 : decode cX6_person 48 = .ok (.getfield 83, 3) := by decide +kernel
theorem dX6_person_51 : decode cX6_person 51 = .ok (.iconst 1, 1) := by decide +kernel
theorem dX6_person_52 : decode cX6_person 52 = .ok (.iadd, 1) := by decide +kernel
theorem dX6_person_53 : decode cX6_person 53 = .ok (.putfield 83, 3) := by decide +kernel
theorem dX6_person_56 : decode cX6_person 56 = .ok (.aload_n 0, 1) := by decide +kernel
theorem dX6_person_57 : decode cX6_person 57 = .ok (.getfield 83, 3) := by decide +kernel
theorem dX6_person_60 : decode cX6_person 60 = .ok (.iconst 1, 1) := by decide +kernel
theorem dX6_person_61 : decode cX6_person 61 = .ok (.isub, 1) := by decide +kernel
theorem dX6_person_62 : decode cX6_person 62 = .ok (.ireturn, 1) := by decide +kernel
theorem dX6_years_0 : decode cX6_years 0 = .ok (.iload_n 1, 1) := by decide +kernel
theorem dX6_years_1 : decode cX6_years 1 = .ok (.i2l, 1) := by decide +kernel
theorem dX6_years_2 : decode cX6_years 2 = .ok (.lconst 1, 1) := by decide +kernel
theorem dX6_years_3 : decode cX6_years 3 = .ok (.ldc2_w 97, 3) := by decide +kernel
theorem dX6_years_6 : decode cX6_years 6 = .ok (.invokestatic 87, 3) := by decide +kernel
theorem dX6_years_9 : decode cX6_years 9 = .ok (.ifCond .ne 5, 3) := by decide +kernel
theorem dX6_years_12 : decode cX6_years 12 = .ok (.iconst (-1), 1) := by decide +kernel
theorem dX6_years_13 : decode cX6_years 13 = .ok (.ireturn, 1) := by decide +kernel
theorem dX6_years_14 : decode cX6_years 14 = .ok (.aload_n 0, 1) := by decide +kernel
theorem dX6_years_15 : decode cX6_years 15 = .ok (.getfield 99, 3) := by decide +kernel
theorem dX6_years_18 : decode cX6_years 18 = .ok (.iload_n 1, 1) := by decide +kernel
theorem dX6_years_19 : decode cX6_years 19 = .ok (.iadd, 1) := by decide +kernel
theorem dX6_years_20 : decode cX6_years 20 = .ok (.sipush 1000, 3) := by decide +kernel
theorem dX6_years_23 : decode cX6_years 23 = .ok (.if_icmp .le 6, 3) := by decide +kernel
theorem dX6_years_26 : decode cX6_years 26 = .ok (.bipush (-3), 2) := by decide +kernel
theorem dX6_years_28 : decode cX6_years 28 = .ok (.ireturn, 1) := by decide +kernel
theorem dX6_years_29 : decode cX6_years 29 = .ok (.aload_n 0, 1) := by decide +kernel
theorem dX6_years_30 : decode cX6_years 30 = .ok (.dup, 1) := by decide +kernel
theorem dX6_years_31 : decode cX6_years 31 = .ok (.getfield 99, 3) := by decide +kernel
theorem dX6_years_34 : decode cX6_years 34 = .ok (.iload_n 1, 1) := by decide +kernel
theorem dX6_years_35 : decode cX6_years 35 = .ok (.iadd, 1) := by decide +kernel
theorem dX6_years_36 : decode cX6_years 36 = .ok (.putfield 99, 3) := by decide +kernel
theorem dX6_years_39 : decode cX6_years 39 = .ok (.iconst 0, 1) := by decide +kernel
theorem dX6_years_40 : decode cX6_years 40 = .ok (.istore_n 2, 1) := by decide +kernel
theorem dX6_years_41 : decode cX6_years 41 = .ok (.iload_n 2, 1) := by decide +kernel
theorem dX6_years_42 : decode cX6_years 42 = .ok (.aload_n 0, 1) := by decide +kernel
theorem dX6_years_43 : decode cX6_years 43 = .ok (.getfield 83, 3) := by decide +kernel
theorem dX6_years_46 : decode cX6_years 46 = .ok (.if_icmp .ge 32, 3) := by decide +kernel
theorem dX6_years_49 : decode cX6_years 49 = .ok (.aload_n 0, 1) := by decide +kernel
theorem dX6_years_50 : decode cX6_years 50 = .ok (.getfield 7, 3) := by decide +kernel
theorem dX6_years_53 : decode cX6_years 53 = .ok (.iload_n 2, 1) := by decide +kernel
theorem dX6_years_54 : decode cX6_years 54 = .ok (.dup2, 1) := by decide +kernel
theorem dX6_years_55 : decode cX6_years 55 = .ok (.iaload, 1) := by decide +kernel
theorem dX6_years_56 : decode cX6_years 56 = .ok (.aload_n 0, 1) := by decide +kernel
theorem dX6_years_57 : decode cX6_years 57 = .ok (.getfield 13, 3) := by decide +kernel
theorem dX6_years_60 : decode cX6_years 60 = .ok (.iload_n 2, 1) := by decide +kernel
theorem dX6_years_61 : decode cX6_years 61 = .ok (.baload, 1) := by decide +kernel
theorem dX6_years_62 : decode cX6_years 62 = .ok (.ifCond .eq 7, 3) := by decide +kernel
theorem dX6_years_65 : decode cX6_years 65 = .ok (.iload_n 1, 1) := by decide +kernel
theorem dX6_years_66 : decode cX6_years 66 = .ok (.goto 4, 3) := by decide +kernel
theorem dX6_years_69 : decode cX6_years 69 = .ok (.iconst 0, 1) := by decide +kernel
theorem dX6_years_70 : decode cX6_years 70 = .ok (.iadd, 1) := by decide +kernel
theorem dX6_years_71 : decode cX6_years 71 = .ok (.iastore, 1) := by decide +kernel
theorem dX6_years_72 : decode cX6_years 72 = .ok (.iinc 2 1, 3) := by decide +kernel
theorem dX6_years_75 : decode cX6_years 75 = .ok (.goto (-34), 3) := by decide +kernel
theorem dX6_years_78 : decode cX6_years 78 = .ok (.aload_n 0, 1) := by decide +kernel
theorem dX6_years_79 : decode cX6_years 79 = .ok (.getfield 99, 3) := by decide +kernel
theorem dX6_years_82 : decode cX6_years 82 = .ok (.ireturn, 1) := by decide +kernel
theorem dX6_knowsAct_0 : decode cX6_knowsAct 0 = .ok (.aload_n 0, 1) := by decide +kernel
theorem dX6_knowsAct_1 : decode cX6_knowsAct 1 = .ok (.getfield 20, 3) := by decide +kernel
theorem dX6_knowsAct_4 : decode cX6_knowsAct 4 = .ok (.bipush 60, 2) := by decide +kernel
theorem dX6_knowsAct_6 : decode cX6_knowsAct 6 = .ok (.iload_n 1, 1) := by decide +kernel
theorem dX6_knowsAct_7 : decode cX6_knowsAct 7 = .ok (.imul, 1) := by decide +kernel
theorem dX6_knowsAct_8 : decode cX6_knowsAct 8 = .ok (.iload_n 2, 1) := by decide +kernel
theorem dX6_knowsAct_9 : decode cX6_knowsAct 9 = .ok (.iadd, 1) := by decide +kernel
theorem dX6_knowsAct_10 : decode cX6_knowsAct 10 = .ok (.iaload, 1) := by decide +kernel
theorem dX6_knowsAct_11 : decode cX6_knowsAct 11 = .ok (.ifCond .le 7, 3) := by decide +kernel
theorem dX6_knowsAct_14 : decode cX6_knowsAct 14 = .ok (.iconst 1, 1) := by decide +kernel
theorem dX6_knowsAct_15 : decode cX6_knowsAct 15 = .ok (.goto 4, 3) := by decide +kernel
theorem dX6_knowsAct_18 : decode cX6_knowsAct 18 = .ok (.iconst 0, 1) := by decide +kernel
theorem dX6_knowsAct_19 : decode cX6_knowsAct 19 = .ok (.ireturn, 1) := by decide +kernel
theorem dX6_knownBy_0 : decode cX6_knownBy 0 = .ok (.iconst 0, 1) := by decide +kernel
theorem dX6_knownBy_1 : decode cX6_knownBy 1 = .ok (.istore_n 2, 1) := by decide +kernel
theorem dX6_knownBy_2 : decode cX6_knownBy 2 = .ok (.iconst 0, 1) := by decide +kernel
theorem dX6_knownBy_3 : decode cX6_knownBy 3 = .ok (.istore_n 3, 1) := by decide +kernel
theorem dX6_knownBy_4 : decode cX6_knownBy 4 = .ok (.iload_n 3, 1) := by decide +kernel
theorem dX6_knownBy_5 : decode cX6_knownBy 5 = .ok (.aload_n 0, 1) := by decide +kernel
theorem dX6_knownBy_6 : decode cX6_knownBy 6 = .ok (.getfield 83, 3) := by decide +kernel
theorem dX6_knownBy_9 : decode cX6_knownBy 9 = .ok (.if_icmp .ge 26, 3) := by decide +kernel
theorem dX6_knownBy_12 : decode cX6_knownBy 12 = .ok (.iload_n 2, 1) := by decide +kernel
theorem dX6_knownBy_13 : decode cX6_knownBy 13 = .ok (.aload_n 0, 1) := by decide +kernel
theorem dX6_knownBy_14 : decode cX6_knownBy 14 = .ok (.iload_n 3, 1) := by decide +kernel
theorem dX6_knownBy_15 : decode cX6_knownBy 15 = .ok (.iload_n 1, 1) := by decide +kernel
theorem dX6_knownBy_16 : decode cX6_knownBy 16 = .ok (.invokevirtual 102, 3) := by decide +kernel
theorem dX6_knownBy_19 : decode cX6_knownBy 19 = .ok (.ifCond .eq 7, 3) := by decide +kernel
theorem dX6_knownBy_22 : decode cX6_knownBy 22 = .ok (.iconst 1, 1) := by decide +kernel
theorem dX6_knownBy_23 : decode cX6_knownBy 23 = .ok (.goto 4, 3) := by decide +kernel
theorem dX6_knownBy_26 : decode cX6_knownBy 26 = .ok (.iconst 0, 1) := by decide +kernel
theorem dX6_knownBy_27 : decode cX6_knownBy 27 = .ok (.iadd, 1) := by decide +kernel
theorem dX6_knownBy_28 : decode cX6_knownBy 28 = .ok (.istore_n 2, 1) := by decide +kernel
theorem dX6_knownBy_29 : decode cX6_knownBy 29 = .ok (.iinc 3 1, 3) := by decide +kernel
theorem dX6_knownBy_32 : decode cX6_knownBy 32 = .ok (.goto (-28), 3) := by decide +kernel
theorem dX6_knownBy_35 : decode cX6_knownBy 35 = .ok (.iload_n 2, 1) := by decide +kernel
theorem dX6_knownBy_36 : decode cX6_knownBy 36 = .ok (.ireturn, 1) := by decide +kernel
theorem dX6_forgotten_0 : decode cX6_forgotten 0 = .ok (.iconst 0, 1) := by decide +kernel
theorem dX6_forgotten_1 : decode cX6_forgotten 1 = .ok (.istore_n 1, 1) := by decide +kernel
theorem dX6_forgotten_2 : decode cX6_forgotten 2 = .ok (.iconst 0, 1) := by decide +kernel
theorem dX6_forgotten_3 : decode cX6_forgotten 3 = .ok (.istore_n 2, 1) := by decide +kernel
theorem dX6_forgotten_4 : decode cX6_forgotten 4 = .ok (.iload_n 2, 1) := by decide +kernel
theorem dX6_forgotten_5 : decode cX6_forgotten 5 = .ok (.aload_n 0, 1) := by decide +kernel
theorem dX6_forgotten_6 : decode cX6_forgotten 6 = .ok (.getfield 106, 3) := by decide +kernel
theorem dX6_forgotten_9 : decode cX6_forgotten 9 = .ok (.if_icmp .ge 25, 3) := by decide +kernel
theorem dX6_forgotten_12 : decode cX6_forgotten 12 = .ok (.iload_n 1, 1) := by decide +kernel
theorem dX6_forgotten_13 : decode cX6_forgotten 13 = .ok (.aload_n 0, 1) := by decide +kernel
theorem dX6_forgotten_14 : decode cX6_forgotten 14 = .ok (.iload_n 2, 1) := by decide +kernel
theorem dX6_forgotten_15 : decode cX6_forgotten 15 = .ok (.invokevirtual 109, 3) := by decide +kernel
theorem dX6_forgotten_18 : decode cX6_forgotten 18 = .ok (.ifCond .ne 7, 3) := by decide +kernel
theorem dX6_forgotten_21 : decode cX6_forgotten 21 = .ok (.iconst 1, 1) := by decide +kernel
theorem dX6_forgotten_22 : decode cX6_forgotten 22 = .ok (.goto 4, 3) := by decide +kernel
theorem dX6_forgotten_25 : decode cX6_forgotten 25 = .ok (.iconst 0, 1) := by decide +kernel
theorem dX6_forgotten_26 : decode cX6_forgotten 26 = .ok (.iadd, 1) := by decide +kernel
theorem dX6_forgotten_27 : decode cX6_forgotten 27 = .ok (.istore_n 1, 1) := by decide +kernel
theorem dX6_forgotten_28 : decode cX6_forgotten 28 = .ok (.iinc 2 1, 3) := by decide +kernel
theorem dX6_forgotten_31 : decode cX6_forgotten 31 = .ok (.goto (-27), 3) := by decide +kernel
theorem dX6_forgotten_34 : decode cX6_forgotten 34 = .ok (.iload_n 1, 1) := by decide +kernel
theorem dX6_forgotten_35 : decode cX6_forgotten 35 = .ok (.ireturn, 1) := by decide +kernel
theorem dX6_dies_0 : decode cX6_dies 0 = .ok (.aload_n 0, 1) := by decide +kernel
theorem dX6_dies_1 : decode cX6_dies 1 = .ok (.iload_n 1, 1) := by decide +kernel
theorem dX6_dies_2 : decode cX6_dies 2 = .ok (.invokevirtual 113, 3) := by decide +kernel
theorem dX6_dies_5 : decode cX6_dies 5 = .ok (.ifCond .ne 5, 3) := by decide +kernel
theorem dX6_dies_8 : decode cX6_dies 8 = .ok (.iconst (-1), 1) := by decide +kernel
theorem dX6_dies_9 : decode cX6_dies 9 = .ok (.ireturn, 1) := by decide +kernel
theorem dX6_dies_10 : decode cX6_dies 10 = .ok (.aload_n 0, 1) := by decide +kernel
theorem dX6_dies_11 : decode cX6_dies 11 = .ok (.getfield 13, 3) := by decide +kernel
theorem dX6_dies_14 : decode cX6_dies 14 = .ok (.iload_n 1, 1) := by decide +kernel
theorem dX6_dies_15 : decode cX6_dies 15 = .ok (.baload, 1) := by decide +kernel
theorem dX6_dies_16 : decode cX6_dies 16 = .ok (.ifCond .ne 6, 3) := by decide +kernel
theorem dX6_dies_19 : decode cX6_dies 19 = .ok (.bipush (-2), 2) := by decide +kernel
theorem dX6_dies_21 : decode cX6_dies 21 = .ok (.ireturn, 1) := by decide +kernel
theorem dX6_dies_22 : decode cX6_dies 22 = .ok (.aload_n 0, 1) := by decide +kernel
theorem dX6_dies_23 : decode cX6_dies 23 = .ok (.invokevirtual 116, 3) := by decide +kernel
theorem dX6_dies_26 : decode cX6_dies 26 = .ok (.istore_n 2, 1) := by decide +kernel
theorem dX6_dies_27 : decode cX6_dies 27 = .ok (.aload_n 0, 1) := by decide +kernel
theorem dX6_dies_28 : decode cX6_dies 28 = .ok (.getfield 13, 3) := by decide +kernel
theorem dX6_dies_31 : decode cX6_dies 31 = .ok (.iload_n 1, 1) := by decide +kernel
theorem dX6_dies_32 : decode cX6_dies 32 = .ok (.iconst 0, 1) := by decide +kernel
theorem dX6_dies_33 : decode cX6_dies 33 = .ok (.bastore, 1) := by decide +kernel
theorem dX6_dies_34 : decode cX6_dies 34 = .ok (.iconst 0, 1) := by decide +kernel
theorem dX6_dies_35 : decode cX6_dies 35 = .ok (.istore_n 3, 1) := by decide +kernel
theorem dX6_dies_36 : decode cX6_dies 36 = .ok (.iload_n 3, 1) := by decide +kernel
theorem dX6_dies_37 : decode cX6_dies 37 = .ok (.bipush 60, 2) := by decide +kernel
theorem dX6_dies_39 : decode cX6_dies 39 = .ok (.if_icmp .ge 21, 3) := by decide +kernel
theorem dX6_dies_42 : decode cX6_dies 42 = .ok (.aload_n 0, 1) := by decide +kernel
theorem dX6_dies_43 : decode cX6_dies 43 = .ok (.getfield 20, 3) := by decide +kernel
theorem dX6_dies_46 : decode cX6_dies 46 = .ok (.bipush 60, 2) := by decide +kernel
theorem dX6_dies_48 : decode cX6_dies 48 = .ok (.iload_n 1, 1) := by decide +kernel
theorem dX6_dies_49 : decode cX6_dies 49 = .ok (.imul, 1) := by decide +kernel
theorem dX6_dies_50 : decode cX6_dies 50 = .ok (.iload_n 3, 1) := by decide +kernel
theorem dX6_dies_51 : decode cX6_dies 51 = .ok (.iadd, 1) := by decide +kernel
theorem dX6_dies_52 : decode cX6_dies 52 = .ok (.iconst 0, 1) := by decide +kernel
theorem dX6_dies_53 : decode cX6_dies 53 = .ok (.iastore, 1) := by decide +kernel
theorem dX6_dies_54 : decode cX6_dies 54 = .ok (.iinc 3 1, 3) := by decide +kernel
theorem dX6_dies_57 : decode cX6_dies 57 = .ok (.goto (-21), 3) := by decide +kernel
theorem dX6_dies_60 : decode cX6_dies 60 = .ok (.aload_n 0, 1) := by decide +kernel
theorem dX6_dies_61 : decode cX6_dies 61 = .ok (.invokevirtual 116, 3) := by decide +kernel
theorem dX6_dies_64 : decode cX6_dies 64 = .ok (.iload_n 2, 1) := by decide +kernel
theorem dX6_dies_65 : decode cX6_dies 65 = .ok (.isub, 1) := by decide +kernel
theorem dX6_dies_66 : decode cX6_dies 66 = .ok (.ireturn, 1) := by decide +kernel
theorem dX6_told_0 : decode cX6_told 0 = .ok (.aload_n 0, 1) := by decide +kernel
theorem dX6_told_1 : decode cX6_told 1 = .ok (.iload_n 1, 1) := by decide +kernel
theorem dX6_told_2 : decode cX6_told 2 = .ok (.invokevirtual 113, 3) := by decide +kernel
theorem dX6_told_5 : decode cX6_told 5 = .ok (.ifCond .ne 5, 3) := by decide +kernel
theorem dX6_told_8 : decode cX6_told 8 = .ok (.iconst (-1), 1) := by decide +kernel
theorem dX6_told_9 : decode cX6_told 9 = .ok (.ireturn, 1) := by decide +kernel
theorem dX6_told_10 : decode cX6_told 10 = .ok (.iconst 0, 1) := by decide +kernel
theorem dX6_told_11 : decode cX6_told 11 = .ok (.istore_n 3, 1) := by decide +kernel
theorem dX6_told_12 : decode cX6_told 12 = .ok (.iload_n 2, 1) := by decide +kernel
theorem dX6_told_13 : decode cX6_told 13 = .ok (.tableswitch 105 0 3 #[31, 38, 53, 67], 31) := by decide +kernel
theorem dX6_told_44 : decode cX6_told 44 = .ok (.aload_n 0, 1) := by decide +kernel
theorem dX6_told_45 : decode cX6_told 45 = .ok (.getfield 7, 3) := by decide +kernel
theorem dX6_told_48 : decode cX6_told 48 = .ok (.iload_n 1, 1) := by decide +kernel
theorem dX6_told_49 : decode cX6_told 49 = .ok (.iaload, 1) := by decide +kernel
theorem dX6_told_50 : decode cX6_told 50 = .ok (.ireturn, 1) := by decide +kernel
theorem dX6_told_51 : decode cX6_told 51 = .ok (.aload_n 0, 1) := by decide +kernel
theorem dX6_told_52 : decode cX6_told 52 = .ok (.getfield 13, 3) := by decide +kernel
theorem dX6_told_55 : decode cX6_told 55 = .ok (.iload_n 1, 1) := by decide +kernel
theorem dX6_told_56 : decode cX6_told 56 = .ok (.baload, 1) := by decide +kernel
theorem dX6_told_57 : decode cX6_told 57 = .ok (.ifCond .eq 7, 3) := by decide +kernel
theorem dX6_told_60 : decode cX6_told 60 = .ok (.iconst 1, 1) := by decide +kernel
theorem dX6_told_61 : decode cX6_told 61 = .ok (.goto 4, 3) := by decide +kernel
theorem dX6_told_64 : decode cX6_told 64 = .ok (.iconst 0, 1) := by decide +kernel
theorem dX6_told_65 : decode cX6_told 65 = .ok (.ireturn, 1) := by decide +kernel
theorem dX6_told_66 : decode cX6_told 66 = .ok (.aload_n 0, 1) := by decide +kernel
theorem dX6_told_67 : decode cX6_told 67 = .ok (.iload_n 1, 1) := by decide +kernel
theorem dX6_told_68 : decode cX6_told 68 = .ok (.invokevirtual 91, 3) := by decide +kernel
theorem dX6_told_71 : decode cX6_told 71 = .ok (.ifCond .eq 7, 3) := by decide +kernel
theorem dX6_told_74 : decode cX6_told 74 = .ok (.iconst 1, 1) := by decide +kernel
theorem dX6_told_75 : decode cX6_told 75 = .ok (.goto 4, 3) := by decide +kernel
theorem dX6_told_78 : decode cX6_told 78 = .ok (.iconst 0, 1) := by decide +kernel
theorem dX6_told_79 : decode cX6_told 79 = .ok (.ireturn, 1) := by decide +kernel
theorem dX6_told_80 : decode cX6_told 80 = .ok (.iconst 0, 1) := by decide +kernel
theorem dX6_told_81 : decode cX6_told 81 = .ok (.istore 4, 2) := by decide +kernel
theorem dX6_told_83 : decode cX6_told 83 = .ok (.iload 4, 2) := by decide +kernel
theorem dX6_told_85 : decode cX6_told 85 = .ok (.aload_n 0, 1) := by decide +kernel
theorem dX6_told_86 : decode cX6_told 86 = .ok (.getfield 106, 3) := by decide +kernel
theorem dX6_told_89 : decode cX6_told 89 = .ok (.if_icmp .ge 27, 3) := by decide +kernel
theorem dX6_told_92 : decode cX6_told 92 = .ok (.iload_n 3, 1) := by decide +kernel
theorem dX6_told_93 : decode cX6_told 93 = .ok (.aload_n 0, 1) := by decide +kernel
theorem dX6_told_94 : decode cX6_told 94 = .ok (.iload_n 1, 1) := by decide +kernel
theorem dX6_told_95 : decode cX6_told 95 = .ok (.iload 4, 2) := by decide +kernel
theorem dX6_told_97 : decode cX6_told 97 = .ok (.invokevirtual 102, 3) := by decide +kernel
theorem dX6_told_100 : decode cX6_told 100 = .ok (.ifCond .eq 7, 3) := by decide +kernel
theorem dX6_told_103 : decode cX6_told 103 = .ok (.iconst 1, 1) := by decide +kernel
theorem dX6_told_104 : decode cX6_told 104 = .ok (.goto 4, 3) := by decide +kernel
theorem dX6_told_107 : decode cX6_told 107 = .ok (.iconst 0, 1) := by decide +kernel
theorem dX6_told_108 : decode cX6_told 108 = .ok (.iadd, 1) := by decide +kernel
theorem dX6_told_109 : decode cX6_told 109 = .ok (.istore_n 3, 1) := by decide +kernel
theorem dX6_told_110 : decode cX6_told 110 = .ok (.iinc 4 1, 3) := by decide +kernel
theorem dX6_told_113 : decode cX6_told 113 = .ok (.goto (-30), 3) := by decide +kernel
theorem dX6_told_116 : decode cX6_told 116 = .ok (.iload_n 3, 1) := by decide +kernel
theorem dX6_told_117 : decode cX6_told 117 = .ok (.ireturn, 1) := by decide +kernel
theorem dX6_told_118 : decode cX6_told 118 = .ok (.iconst (-1), 1) := by decide +kernel
theorem dX6_told_119 : decode cX6_told 119 = .ok (.ireturn, 1) := by decide +kernel
theorem dX6_isStone_0 : decode cX6_isStone 0 = .ok (.iload_n 1, 1) := by decide +kernel
theorem dX6_isStone_1 : decode cX6_isStone 1 = .ok (.i2l, 1) := by decide +kernel
theorem dX6_isStone_2 : decode cX6_isStone 2 = .ok (.lconst 0, 1) := by decide +kernel
theorem dX6_isStone_3 : decode cX6_isStone 3 = .ok (.aload_n 0, 1) := by decide +kernel
theorem dX6_isStone_4 : decode cX6_isStone 4 = .ok (.getfield 120, 3) := by decide +kernel
theorem dX6_isStone_7 : decode cX6_isStone 7 = .ok (.iconst 1, 1) := by decide +kernel
theorem dX6_isStone_8 : decode cX6_isStone 8 = .ok (.isub, 1) := by decide +kernel
theorem dX6_isStone_9 : decode cX6_isStone 9 = .ok (.i2l, 1) := by decide +kernel
theorem dX6_isStone_10 : decode cX6_isStone 10 = .ok (.invokestatic 87, 3) := by decide +kernel
theorem dX6_isStone_13 : decode cX6_isStone 13 = .ok (.ireturn, 1) := by decide +kernel
theorem dX6_stone_0 : decode cX6_stone 0 = .ok (.iload_n 1, 1) := by decide +kernel
theorem dX6_stone_1 : decode cX6_stone 1 = .ok (.i2l, 1) := by decide +kernel
theorem dX6_stone_2 : decode cX6_stone 2 = .ok (.lconst 1, 1) := by decide +kernel
theorem dX6_stone_3 : decode cX6_stone 3 = .ok (.ldc2_w 123, 3) := by decide +kernel
theorem dX6_stone_6 : decode cX6_stone 6 = .ok (.invokestatic 87, 3) := by decide +kernel
theorem dX6_stone_9 : decode cX6_stone 9 = .ok (.ifCond .eq 17, 3) := by decide +kernel
theorem dX6_stone_12 : decode cX6_stone 12 = .ok (.iload_n 2, 1) := by decide +kernel
theorem dX6_stone_13 : decode cX6_stone 13 = .ok (.i2l, 1) := by decide +kernel
theorem dX6_stone_14 : decode cX6_stone 14 = .ok (.ldc2_w 125, 3) := by decide +kernel
theorem dX6_stone_17 : decode cX6_stone 17 = .ok (.ldc2_w 127, 3) := by decide +kernel
theorem dX6_stone_20 : decode cX6_stone 20 = .ok (.invokestatic 87, 3) := by decide +kernel
theorem dX6_stone_23 : decode cX6_stone 23 = .ok (.ifCond .ne 5, 3) := by decide +kernel
theorem dX6_stone_26 : decode cX6_stone 26 = .ok (.iconst (-1), 1) := by decide +kernel
theorem dX6_stone_27 : decode cX6_stone 27 = .ok (.ireturn, 1) := by decide +kernel
theorem dX6_stone_28 : decode cX6_stone 28 = .ok (.aload_n 0, 1) := by decide +kernel
theorem dX6_stone_29 : decode cX6_stone 29 = .ok (.getfield 120, 3) := by decide +kernel
theorem dX6_stone_32 : decode cX6_stone 32 = .ok (.bipush 8, 2) := by decide +kernel
theorem dX6_stone_34 : decode cX6_stone 34 = .ok (.if_icmp .ne 6, 3) := by decide +kernel
theorem dX6_stone_37 : decode cX6_stone 37 = .ok (.bipush (-3), 2) := by decide +kernel
theorem dX6_stone_39 : decode cX6_stone 39 = .ok (.ireturn, 1) := by decide +kernel
theorem dX6_stone_40 : decode cX6_stone 40 = .ok (.aload_n 0, 1) := by decide +kernel
theorem dX6_stone_41 : decode cX6_stone 41 = .ok (.getfield 23, 3) := by decide +kernel
theorem dX6_stone_44 : decode cX6_stone 44 = .ok (.aload_n 0, 1) := by decide +kernel
theorem dX6_stone_45 : decode cX6_stone 45 = .ok (.getfield 120, 3) := by decide +kernel
theorem dX6_stone_48 : decode cX6_stone 48 = .ok (.iload_n 1, 1) := by decide +kernel
theorem dX6_stone_49 : decode cX6_stone 49 = .ok (.iastore, 1) := by decide +kernel
theorem dX6_stone_50 : decode cX6_stone 50 = .ok (.aload_n 0, 1) := by decide +kernel
theorem dX6_stone_51 : decode cX6_stone 51 = .ok (.getfield 26, 3) := by decide +kernel
theorem dX6_stone_54 : decode cX6_stone 54 = .ok (.aload_n 0, 1) := by decide +kernel
theorem dX6_stone_55 : decode cX6_stone 55 = .ok (.getfield 120, 3) := by decide +kernel
theorem dX6_stone_58 : decode cX6_stone 58 = .ok (.iload_n 2, 1) := by decide +kernel
theorem dX6_stone_59 : decode cX6_stone 59 = .ok (.iastore, 1) := by decide +kernel
theorem dX6_stone_60 : decode cX6_stone 60 = .ok (.aload_n 0, 1) := by decide +kernel
theorem dX6_stone_61 : decode cX6_stone 61 = .ok (.dup, 1) := by decide +kernel
theorem dX6_stone_62 : decode cX6_stone 62 = .ok (.getfield 120, 3) := by decide +kernel
theorem dX6_stone_65 : decode cX6_stone 65 = .ok (.iconst 1, 1) := by decide +kernel
theorem dX6_stone_66 : decode cX6_stone 66 = .ok (.iadd, 1) := by decide +kernel
theorem dX6_stone_67 : decode cX6_stone 67 = .ok (.putfield 120, 3) := by decide +kernel
theorem dX6_stone_70 : decode cX6_stone 70 = .ok (.aload_n 0, 1) := by decide +kernel
theorem dX6_stone_71 : decode cX6_stone 71 = .ok (.getfield 120, 3) := by decide +kernel
theorem dX6_stone_74 : decode cX6_stone 74 = .ok (.iconst 1, 1) := by decide +kernel
theorem dX6_stone_75 : decode cX6_stone 75 = .ok (.isub, 1) := by decide +kernel
theorem dX6_stone_76 : decode cX6_stone 76 = .ok (.ireturn, 1) := by decide +kernel
theorem dX6_moves_0 : decode cX6_moves 0 = .ok (.aload_n 0, 1) := by decide +kernel
theorem dX6_moves_1 : decode cX6_moves 1 = .ok (.iload_n 1, 1) := by decide +kernel
theorem dX6_moves_2 : decode cX6_moves 2 = .ok (.invokevirtual 129, 3) := by decide +kernel
theorem dX6_moves_5 : decode cX6_moves 5 = .ok (.ifCond .eq 17, 3) := by decide +kernel
theorem dX6_moves_8 : decode cX6_moves 8 = .ok (.iload_n 2, 1) := by decide +kernel
theorem dX6_moves_9 : decode cX6_moves 9 = .ok (.i2l, 1) := by decide +kernel
theorem dX6_moves_10 : decode cX6_moves 10 = .ok (.ldc2_w 125, 3) := by decide +kernel
theorem dX6_moves_13 : decode cX6_moves 13 = .ok (.ldc2_w 127, 3) := by decide +kernel
theorem dX6_moves_16 : decode cX6_moves 16 = .ok (.invokestatic 87, 3) := by decide +kernel
theorem dX6_moves_19 : decode cX6_moves 19 = .ok (.ifCond .ne 6, 3) := by decide +kernel
theorem dX6_moves_22 : decode cX6_moves 22 = .ok (.bipush (-11), 2) := by decide +kernel
theorem dX6_moves_24 : decode cX6_moves 24 = .ok (.ireturn, 1) := by decide +kernel
theorem dX6_moves_25 : decode cX6_moves 25 = .ok (.aload_n 0, 1) := by decide +kernel
theorem dX6_moves_26 : decode cX6_moves 26 = .ok (.getfield 26, 3) := by decide +kernel
theorem dX6_moves_29 : decode cX6_moves 29 = .ok (.iload_n 1, 1) := by decide +kernel
theorem dX6_moves_30 : decode cX6_moves 30 = .ok (.iaload, 1) := by decide +kernel
theorem dX6_moves_31 : decode cX6_moves 31 = .ok (.istore_n 3, 1) := by decide +kernel
theorem dX6_moves_32 : decode cX6_moves 32 = .ok (.iload_n 3, 1) := by decide +kernel
theorem dX6_moves_33 : decode cX6_moves 33 = .ok (.ifCond .ge 6, 3) := by decide +kernel
theorem dX6_moves_36 : decode cX6_moves 36 = .ok (.bipush (-12), 2) := by decide +kernel
theorem dX6_moves_38 : decode cX6_moves 38 = .ok (.ireturn, 1) := by decide +kernel
theorem dX6_moves_39 : decode cX6_moves 39 = .ok (.aload_n 0, 1) := by decide +kernel
theorem dX6_moves_40 : decode cX6_moves 40 = .ok (.getfield 26, 3) := by decide +kernel
theorem dX6_moves_43 : decode cX6_moves 43 = .ok (.iload_n 1, 1) := by decide +kernel
theorem dX6_moves_44 : decode cX6_moves 44 = .ok (.iload_n 2, 1) := by decide +kernel
theorem dX6_moves_45 : decode cX6_moves 45 = .ok (.iastore, 1) := by decide +kernel
theorem dX6_moves_46 : decode cX6_moves 46 = .ok (.iload_n 3, 1) := by decide +kernel
theorem dX6_moves_47 : decode cX6_moves 47 = .ok (.ireturn, 1) := by decide +kernel
theorem dX6_hasGetter_0 : decode cX6_hasGetter 0 = .ok (.iload_n 0, 1) := by decide +kernel
theorem dX6_hasGetter_1 : decode cX6_hasGetter 1 = .ok (.i2l, 1) := by decide +kernel
theorem dX6_hasGetter_2 : decode cX6_hasGetter 2 = .ok (.lconst 1, 1) := by decide +kernel
theorem dX6_hasGetter_3 : decode cX6_hasGetter 3 = .ok (.ldc2_w 132, 3) := by decide +kernel
theorem dX6_hasGetter_6 : decode cX6_hasGetter 6 = .ok (.invokestatic 87, 3) := by decide +kernel
theorem dX6_hasGetter_9 : decode cX6_hasGetter 9 = .ok (.ireturn, 1) := by decide +kernel
theorem dX6_isAlive_0 : decode cX6_isAlive 0 = .ok (.aload_n 0, 1) := by decide +kernel
theorem dX6_isAlive_1 : decode cX6_isAlive 1 = .ok (.iload_n 1, 1) := by decide +kernel
theorem dX6_isAlive_2 : decode cX6_isAlive 2 = .ok (.invokevirtual 113, 3) := by decide +kernel
theorem dX6_isAlive_5 : decode cX6_isAlive 5 = .ok (.ifCond .eq 16, 3) := by decide +kernel
theorem dX6_isAlive_8 : decode cX6_isAlive 8 = .ok (.aload_n 0, 1) := by decide +kernel
theorem dX6_isAlive_9 : decode cX6_isAlive 9 = .ok (.getfield 13, 3) := by decide +kernel
theorem dX6_isAlive_12 : decode cX6_isAlive 12 = .ok (.iload_n 1, 1) := by decide +kernel
theorem dX6_isAlive_13 : decode cX6_isAlive 13 = .ok (.baload, 1) := by decide +kernel
theorem dX6_isAlive_14 : decode cX6_isAlive 14 = .ok (.ifCond .eq 7, 3) := by decide +kernel
theorem dX6_isAlive_17 : decode cX6_isAlive 17 = .ok (.iconst 1, 1) := by decide +kernel
theorem dX6_isAlive_18 : decode cX6_isAlive 18 = .ok (.goto 4, 3) := by decide +kernel
theorem dX6_isAlive_21 : decode cX6_isAlive 21 = .ok (.iconst 0, 1) := by decide +kernel
theorem dX6_isAlive_22 : decode cX6_isAlive 22 = .ok (.ireturn, 1) := by decide +kernel
theorem dX6_isAct_0 : decode cX6_isAct 0 = .ok (.iload_n 1, 1) := by decide +kernel
theorem dX6_isAct_1 : decode cX6_isAct 1 = .ok (.i2l, 1) := by decide +kernel
theorem dX6_isAct_2 : decode cX6_isAct 2 = .ok (.lconst 0, 1) := by decide +kernel
theorem dX6_isAct_3 : decode cX6_isAct 3 = .ok (.ldc2_w 134, 3) := by decide +kernel
theorem dX6_isAct_6 : decode cX6_isAct 6 = .ok (.invokestatic 87, 3) := by decide +kernel
theorem dX6_isAct_9 : decode cX6_isAct 9 = .ok (.ifCond .eq 36, 3) := by decide +kernel
theorem dX6_isAct_12 : decode cX6_isAct 12 = .ok (.aload_n 0, 1) := by decide +kernel
theorem dX6_isAct_13 : decode cX6_isAct 13 = .ok (.iload_n 2, 1) := by decide +kernel
theorem dX6_isAct_14 : decode cX6_isAct 14 = .ok (.invokevirtual 129, 3) := by decide +kernel
theorem dX6_isAct_17 : decode cX6_isAct 17 = .ok (.ifCond .eq 28, 3) := by decide +kernel
theorem dX6_isAct_20 : decode cX6_isAct 20 = .ok (.aload_n 0, 1) := by decide +kernel
theorem dX6_isAct_21 : decode cX6_isAct 21 = .ok (.iload_n 3, 1) := by decide +kernel
theorem dX6_isAct_22 : decode cX6_isAct 22 = .ok (.invokevirtual 136, 3) := by decide +kernel
theorem dX6_isAct_25 : decode cX6_isAct 25 = .ok (.ifCond .eq 20, 3) := by decide +kernel
theorem dX6_isAct_28 : decode cX6_isAct 28 = .ok (.iload 6, 2) := by decide +kernel
theorem dX6_isAct_30 : decode cX6_isAct 30 = .ok (.ifCond .lt 15, 3) := by decide +kernel
theorem dX6_isAct_33 : decode cX6_isAct 33 = .ok (.iload 6, 2) := by decide +kernel
theorem dX6_isAct_35 : decode cX6_isAct 35 = .ok (.aload_n 0, 1) := by decide +kernel
theorem dX6_isAct_36 : decode cX6_isAct 36 = .ok (.invokevirtual 139, 3) := by decide +kernel
theorem dX6_isAct_39 : decode cX6_isAct 39 = .ok (.iconst (-1), 1) := by decide +kernel
theorem dX6_isAct_40 : decode cX6_isAct 40 = .ok (.ixor, 1) := by decide +kernel
theorem dX6_isAct_41 : decode cX6_isAct 41 = .ok (.iand, 1) := by decide +kernel
theorem dX6_isAct_42 : decode cX6_isAct 42 = .ok (.ifCond .eq 5, 3) := by decide +kernel
theorem dX6_isAct_45 : decode cX6_isAct 45 = .ok (.iconst 0, 1) := by decide +kernel
theorem dX6_isAct_46 : decode cX6_isAct 46 = .ok (.ireturn, 1) := by decide +kernel
theorem dX6_isAct_47 : decode cX6_isAct 47 = .ok (.iload_n 1, 1) := by decide +kernel
theorem dX6_isAct_48 : decode cX6_isAct 48 = .ok (.invokestatic 142, 3) := by decide +kernel
theorem dX6_isAct_51 : decode cX6_isAct 51 = .ok (.ifCond .eq 37, 3) := by decide +kernel
theorem dX6_isAct_54 : decode cX6_isAct 54 = .ok (.aload_n 0, 1) := by decide +kernel
theorem dX6_isAct_55 : decode cX6_isAct 55 = .ok (.iload 4, 2) := by decide +kernel
theorem dX6_isAct_57 : decode cX6_isAct 57 = .ok (.invokevirtual 136, 3) := by decide +kernel
theorem dX6_isAct_60 : decode cX6_isAct 60 = .ok (.ifCond .eq 26, 3) := by decide +kernel
theorem dX6_isAct_63 : decode cX6_isAct 63 = .ok (.iload_n 3, 1) := by decide +kernel
theorem dX6_isAct_64 : decode cX6_isAct 64 = .ok (.iload 4, 2) := by decide +kernel
theorem dX6_isAct_66 : decode cX6_isAct 66 = .ok (.if_icmp .eq 20, 3) := by decide +kernel
theorem dX6_isAct_69 : decode cX6_isAct 69 = .ok (.iload 5, 2) := by decide +kernel
theorem dX6_isAct_71 : decode cX6_isAct 71 = .ok (.i2l, 1) := by decide +kernel
theorem dX6_isAct_72 : decode cX6_isAct 72 = .ok (.lconst 1, 1) := by decide +kernel
theorem dX6_isAct_73 : decode cX6_isAct 73 = .ok (.ldc2_w 145, 3) := by decide +kernel
theorem dX6_isAct_76 : decode cX6_isAct 76 = .ok (.invokestatic 87, 3) := by decide +kernel
theorem dX6_isAct_79 : decode cX6_isAct 79 = .ok (.ifCond .eq 7, 3) := by decide +kernel
theorem dX6_isAct_82 : decode cX6_isAct 82 = .ok (.iconst 1, 1) := by decide +kernel
theorem dX6_isAct_83 : decode cX6_isAct 83 = .ok (.goto 4, 3) := by decide +kernel
theorem dX6_isAct_86 : decode cX6_isAct 86 = .ok (.iconst 0, 1) := by decide +kernel
theorem dX6_isAct_87 : decode cX6_isAct 87 = .ok (.ireturn, 1) := by decide +kernel
theorem dX6_isAct_88 : decode cX6_isAct 88 = .ok (.iload_n 1, 1) := by decide +kernel
theorem dX6_isAct_89 : decode cX6_isAct 89 = .ok (.iconst 4, 1) := by decide +kernel
theorem dX6_isAct_90 : decode cX6_isAct 90 = .ok (.if_icmp .ne 59, 3) := by decide +kernel
theorem dX6_isAct_93 : decode cX6_isAct 93 = .ok (.iload 4, 2) := by decide +kernel
theorem dX6_isAct_95 : decode cX6_isAct 95 = .ok (.i2l, 1) := by decide +kernel
theorem dX6_isAct_96 : decode cX6_isAct 96 = .ok (.lconst 0, 1) := by decide +kernel
theorem dX6_isAct_97 : decode cX6_isAct 97 = .ok (.aload_n 0, 1) := by decide +kernel
theorem dX6_isAct_98 : decode cX6_isAct 98 = .ok (.getfield 106, 3) := by decide +kernel
theorem dX6_isAct_101 : decode cX6_isAct 101 = .ok (.iconst 1, 1) := by decide +kernel
theorem dX6_isAct_102 : decode cX6_isAct 102 = .ok (.isub, 1) := by decide +kernel
theorem dX6_isAct_103 : decode cX6_isAct 103 = .ok (.i2l, 1) := by decide +kernel
theorem dX6_isAct_104 : decode cX6_isAct 104 = .ok (.invokestatic 87, 3) := by decide +kernel
theorem dX6_isAct_107 : decode cX6_isAct 107 = .ok (.ifCond .eq 40, 3) := by decide +kernel
theorem dX6_isAct_110 : decode cX6_isAct 110 = .ok (.aload_n 0, 1) := by decide +kernel
theorem dX6_isAct_111 : decode cX6_isAct 111 = .ok (.getfield 32, 3) := by decide +kernel
theorem dX6_isAct_114 : decode cX6_isAct 114 = .ok (.iload 4, 2) := by decide +kernel
theorem dX6_isAct_116 : decode cX6_isAct 116 = .ok (.iaload, 1) := by decide +kernel
theorem dX6_isAct_117 : decode cX6_isAct 117 = .ok (.iconst 3, 1) := by decide +kernel
theorem dX6_isAct_118 : decode cX6_isAct 118 = .ok (.if_icmp .ne 29, 3) := by decide +kernel
theorem dX6_isAct_121 : decode cX6_isAct 121 = .ok (.aload_n 0, 1) := by decide +kernel
theorem dX6_isAct_122 : decode cX6_isAct 122 = .ok (.getfield 35, 3) := by decide +kernel
theorem dX6_isAct_125 : decode cX6_isAct 125 = .ok (.iload 4, 2) := by decide +kernel
theorem dX6_isAct_127 : decode cX6_isAct 127 = .ok (.iaload, 1) := by decide +kernel
theorem dX6_isAct_128 : decode cX6_isAct 128 = .ok (.iload_n 2, 1) := by decide +kernel
theorem dX6_isAct_129 : decode cX6_isAct 129 = .ok (.if_icmp .ne 18, 3) := by decide +kernel
theorem dX6_isAct_132 : decode cX6_isAct 132 = .ok (.aload_n 0, 1) := by decide +kernel
theorem dX6_isAct_133 : decode cX6_isAct 133 = .ok (.getfield 38, 3) := by decide +kernel
theorem dX6_isAct_136 : decode cX6_isAct 136 = .ok (.iload 4, 2) := by decide +kernel
theorem dX6_isAct_138 : decode cX6_isAct 138 = .ok (.iaload, 1) := by decide +kernel
theorem dX6_isAct_139 : decode cX6_isAct 139 = .ok (.iload_n 3, 1) := by decide +kernel
theorem dX6_isAct_140 : decode cX6_isAct 140 = .ok (.if_icmp .ne 7, 3) := by decide +kernel
theorem dX6_isAct_143 : decode cX6_isAct 143 = .ok (.iconst 1, 1) := by decide +kernel
theorem dX6_isAct_144 : decode cX6_isAct 144 = .ok (.goto 4, 3) := by decide +kernel
theorem dX6_isAct_147 : decode cX6_isAct 147 = .ok (.iconst 0, 1) := by decide +kernel
theorem dX6_isAct_148 : decode cX6_isAct 148 = .ok (.ireturn, 1) := by decide +kernel
theorem dX6_isAct_149 : decode cX6_isAct 149 = .ok (.iload_n 1, 1) := by decide +kernel
theorem dX6_isAct_150 : decode cX6_isAct 150 = .ok (.iconst 5, 1) := by decide +kernel
theorem dX6_isAct_151 : decode cX6_isAct 151 = .ok (.if_icmp .ne 16, 3) := by decide +kernel
theorem dX6_isAct_154 : decode cX6_isAct 154 = .ok (.iload 5, 2) := by decide +kernel
theorem dX6_isAct_156 : decode cX6_isAct 156 = .ok (.i2l, 1) := by decide +kernel
theorem dX6_isAct_157 : decode cX6_isAct 157 = .ok (.lconst 1, 1) := by decide +kernel
theorem dX6_isAct_158 : decode cX6_isAct 158 = .ok (.ldc2_w 147, 3) := by decide +kernel
theorem dX6_isAct_161 : decode cX6_isAct 161 = .ok (.invokestatic 87, 3) := by decide +kernel
theorem dX6_isAct_164 : decode cX6_isAct 164 = .ok (.ifCond .eq 7, 3) := by decide +kernel
theorem dX6_isAct_167 : decode cX6_isAct 167 = .ok (.iconst 1, 1) := by decide +kernel
theorem dX6_isAct_168 : decode cX6_isAct 168 = .ok (.goto 4, 3) := by decide +kernel
theorem dX6_isAct_171 : decode cX6_isAct 171 = .ok (.iconst 0, 1) := by decide +kernel
theorem dX6_isAct_172 : decode cX6_isAct 172 = .ok (.ireturn, 1) := by decide +kernel
theorem dX6_act_0 : decode cX6_act 0 = .ok (.aload_n 0, 1) := by decide +kernel
theorem dX6_act_1 : decode cX6_act 1 = .ok (.iload_n 1, 1) := by decide +kernel
theorem dX6_act_2 : decode cX6_act 2 = .ok (.iload_n 2, 1) := by decide +kernel
theorem dX6_act_3 : decode cX6_act 3 = .ok (.iload_n 3, 1) := by decide +kernel
theorem dX6_act_4 : decode cX6_act 4 = .ok (.iload 4, 2) := by decide +kernel
theorem dX6_act_6 : decode cX6_act 6 = .ok (.iload 5, 2) := by decide +kernel
theorem dX6_act_8 : decode cX6_act 8 = .ok (.iload 6, 2) := by decide +kernel
theorem dX6_act_10 : decode cX6_act 10 = .ok (.invokevirtual 149, 3) := by decide +kernel
theorem dX6_act_13 : decode cX6_act 13 = .ok (.ifCond .ne 5, 3) := by decide +kernel
theorem dX6_act_16 : decode cX6_act 16 = .ok (.iconst (-1), 1) := by decide +kernel
theorem dX6_act_17 : decode cX6_act 17 = .ok (.ireturn, 1) := by decide +kernel
theorem dX6_act_18 : decode cX6_act 18 = .ok (.aload_n 0, 1) := by decide +kernel
theorem dX6_act_19 : decode cX6_act 19 = .ok (.getfield 106, 3) := by decide +kernel
theorem dX6_act_22 : decode cX6_act 22 = .ok (.bipush 60, 2) := by decide +kernel
theorem dX6_act_24 : decode cX6_act 24 = .ok (.if_icmp .ne 6, 3) := by decide +kernel
theorem dX6_act_27 : decode cX6_act 27 = .ok (.bipush (-3), 2) := by decide +kernel
theorem dX6_act_29 : decode cX6_act 29 = .ok (.ireturn, 1) := by decide +kernel
theorem dX6_act_30 : decode cX6_act 30 = .ok (.aload_n 0, 1) := by decide +kernel
theorem dX6_act_31 : decode cX6_act 31 = .ok (.getfield 106, 3) := by decide +kernel
theorem dX6_act_34 : decode cX6_act 34 = .ok (.istore 7, 2) := by decide +kernel
theorem dX6_act_36 : decode cX6_act 36 = .ok (.aload_n 0, 1) := by decide +kernel
theorem dX6_act_37 : decode cX6_act 37 = .ok (.getfield 32, 3) := by decide +kernel
theorem dX6_act_40 : decode cX6_act 40 = .ok (.iload 7, 2) := by decide +kernel
theorem dX6_act_42 : decode cX6_act 42 = .ok (.iload_n 1, 1) := by decide +kernel
theorem dX6_act_43 : decode cX6_act 43 = .ok (.iastore, 1) := by decide +kernel
theorem dX6_act_44 : decode cX6_act 44 = .ok (.aload_n 0, 1) := by decide +kernel
theorem dX6_act_45 : decode cX6_act 45 = .ok (.getfield 35, 3) := by decide +kernel
theorem dX6_act_48 : decode cX6_act 48 = .ok (.iload 7, 2) := by decide +kernel
theorem dX6_act_50 : decode cX6_act 50 = .ok (.iload_n 2, 1) := by decide +kernel
theorem dX6_act_51 : decode cX6_act 51 = .ok (.iastore, 1) := by decide +kernel
theorem dX6_act_52 : decode cX6_act 52 = .ok (.aload_n 0, 1) := by decide +kernel
theorem dX6_act_53 : decode cX6_act 53 = .ok (.getfield 38, 3) := by decide +kernel
theorem dX6_act_56 : decode cX6_act 56 = .ok (.iload 7, 2) := by decide +kernel
theorem dX6_act_58 : decode cX6_act 58 = .ok (.iload_n 3, 1) := by decide +kernel
theorem dX6_act_59 : decode cX6_act 59 = .ok (.iastore, 1) := by decide +kernel
theorem dX6_act_60 : decode cX6_act 60 = .ok (.aload_n 0, 1) := by decide +kernel
theorem dX6_act_61 : decode cX6_act 61 = .ok (.getfield 41, 3) := by decide +kernel
theorem dX6_act_64 : decode cX6_act 64 = .ok (.iload 7, 2) := by decide +kernel
theorem dX6_act_66 : decode cX6_act 66 = .ok (.iload_n 1, 1) := by decide +kernel
theorem dX6_act_67 : decode cX6_act 67 = .ok (.invokestatic 142, 3) := by decide +kernel
theorem dX6_act_70 : decode cX6_act 70 = .ok (.ifCond .ne 8, 3) := by decide +kernel
theorem dX6_act_73 : decode cX6_act 73 = .ok (.iload_n 1, 1) := by decide +kernel
theorem dX6_act_74 : decode cX6_act 74 = .ok (.iconst 4, 1) := by decide +kernel
theorem dX6_act_75 : decode cX6_act 75 = .ok (.if_icmp .ne 8, 3) := by decide +kernel
theorem dX6_act_78 : decode cX6_act 78 = .ok (.iload 4, 2) := by decide +kernel
theorem dX6_act_80 : decode cX6_act 80 = .ok (.goto 4, 3) := by decide +kernel
theorem dX6_act_83 : decode cX6_act 83 = .ok (.iconst 0, 1) := by decide +kernel
theorem dX6_act_84 : decode cX6_act 84 = .ok (.iastore, 1) := by decide +kernel
theorem dX6_act_85 : decode cX6_act 85 = .ok (.aload_n 0, 1) := by decide +kernel
theorem dX6_act_86 : decode cX6_act 86 = .ok (.getfield 44, 3) := by decide +kernel
theorem dX6_act_89 : decode cX6_act 89 = .ok (.iload 7, 2) := by decide +kernel
theorem dX6_act_91 : decode cX6_act 91 = .ok (.iload_n 1, 1) := by decide +kernel
theorem dX6_act_92 : decode cX6_act 92 = .ok (.invokestatic 142, 3) := by decide +kernel
theorem dX6_act_95 : decode cX6_act 95 = .ok (.ifCond .ne 8, 3) := by decide +kernel
theorem dX6_act_98 : decode cX6_act 98 = .ok (.iload_n 1, 1) := by decide +kernel
theorem dX6_act_99 : decode cX6_act 99 = .ok (.iconst 5, 1) := by decide +kernel
theorem dX6_act_100 : decode cX6_act 100 = .ok (.if_icmp .ne 8, 3) := by decide +kernel
theorem dX6_act_103 : decode cX6_act 103 = .ok (.iload 5, 2) := by decide +kernel
theorem dX6_act_105 : decode cX6_act 105 = .ok (.goto 4, 3) := by decide +kernel
theorem dX6_act_108 : decode cX6_act 108 = .ok (.iconst 0, 1) := by decide +kernel
theorem dX6_act_109 : decode cX6_act 109 = .ok (.iastore, 1) := by decide +kernel
theorem dX6_act_110 : decode cX6_act 110 = .ok (.aload_n 0, 1) := by decide +kernel
theorem dX6_act_111 : decode cX6_act 111 = .ok (.getfield 47, 3) := by decide +kernel
theorem dX6_act_114 : decode cX6_act 114 = .ok (.iload 7, 2) := by decide +kernel
theorem dX6_act_116 : decode cX6_act 116 = .ok (.aload_n 0, 1) := by decide +kernel
theorem dX6_act_117 : decode cX6_act 117 = .ok (.getfield 99, 3) := by decide +kernel
theorem dX6_act_120 : decode cX6_act 120 = .ok (.iastore, 1) := by decide +kernel
theorem dX6_act_121 : decode cX6_act 121 = .ok (.aload_n 0, 1) := by decide +kernel
theorem dX6_act_122 : decode cX6_act 122 = .ok (.getfield 50, 3) := by decide +kernel
theorem dX6_act_125 : decode cX6_act 125 = .ok (.iload 7, 2) := by decide +kernel
theorem dX6_act_127 : decode cX6_act 127 = .ok (.iload 6, 2) := by decide +kernel
theorem dX6_act_129 : decode cX6_act 129 = .ok (.iconst 1, 1) := by decide +kernel
theorem dX6_act_130 : decode cX6_act 130 = .ok (.iload_n 3, 1) := by decide +kernel
theorem dX6_act_131 : decode cX6_act 131 = .ok (.ishl, 1) := by decide +kernel
theorem dX6_act_132 : decode cX6_act 132 = .ok (.ior, 1) := by decide +kernel
theorem dX6_act_133 : decode cX6_act 133 = .ok (.iastore, 1) := by decide +kernel
theorem dX6_act_134 : decode cX6_act 134 = .ok (.aload_n 0, 1) := by decide +kernel
theorem dX6_act_135 : decode cX6_act 135 = .ok (.dup, 1) := by decide +kernel
theorem dX6_act_136 : decode cX6_act 136 = .ok (.getfield 106, 3) := by decide +kernel
theorem dX6_act_139 : decode cX6_act 139 = .ok (.iconst 1, 1) := by decide +kernel
theorem dX6_act_140 : decode cX6_act 140 = .ok (.iadd, 1) := by decide +kernel
theorem dX6_act_141 : decode cX6_act 141 = .ok (.putfield 106, 3) := by decide +kernel
theorem dX6_act_144 : decode cX6_act 144 = .ok (.iconst 0, 1) := by decide +kernel
theorem dX6_act_145 : decode cX6_act 145 = .ok (.istore 8, 2) := by decide +kernel
theorem dX6_act_147 : decode cX6_act 147 = .ok (.iconst 0, 1) := by decide +kernel
theorem dX6_act_148 : decode cX6_act 148 = .ok (.istore 9, 2) := by decide +kernel
theorem dX6_act_150 : decode cX6_act 150 = .ok (.iload 9, 2) := by decide +kernel
theorem dX6_act_152 : decode cX6_act 152 = .ok (.aload_n 0, 1) := by decide +kernel
theorem dX6_act_153 : decode cX6_act 153 = .ok (.getfield 83, 3) := by decide +kernel
theorem dX6_act_156 : decode cX6_act 156 = .ok (.if_icmp .ge 90, 3) := by decide +kernel
theorem dX6_act_159 : decode cX6_act 159 = .ok (.aload_n 0, 1) := by decide +kernel
theorem dX6_act_160 : decode cX6_act 160 = .ok (.getfield 20, 3) := by decide +kernel
theorem dX6_act_163 : decode cX6_act 163 = .ok (.bipush 60, 2) := by decide +kernel
theorem dX6_act_165 : decode cX6_act 165 = .ok (.iload 9, 2) := by decide +kernel
theorem dX6_act_167 : decode cX6_act 167 = .ok (.imul, 1) := by decide +kernel
theorem dX6_act_168 : decode cX6_act 168 = .ok (.iload 7, 2) := by decide +kernel
theorem dX6_act_170 : decode cX6_act 170 = .ok (.iadd, 1) := by decide +kernel
theorem dX6_act_171 : decode cX6_act 171 = .ok (.aload_n 0, 1) := by decide +kernel
theorem dX6_act_172 : decode cX6_act 172 = .ok (.getfield 50, 3) := by decide +kernel
theorem dX6_act_175 : decode cX6_act 175 = .ok (.iload 7, 2) := by decide +kernel
theorem dX6_act_177 : decode cX6_act 177 = .ok (.iaload, 1) := by decide +kernel
theorem dX6_act_178 : decode cX6_act 178 = .ok (.iload 9, 2) := by decide +kernel
theorem dX6_act_180 : decode cX6_act 180 = .ok (.ishr, 1) := by decide +kernel
theorem dX6_act_181 : decode cX6_act 181 = .ok (.iconst 1, 1) := by decide +kernel
theorem dX6_act_182 : decode cX6_act 182 = .ok (.iand, 1) := by decide +kernel
theorem dX6_act_183 : decode cX6_act 183 = .ok (.iconst 1, 1) := by decide +kernel
theorem dX6_act_184 : decode cX6_act 184 = .ok (.if_icmp .ne 7, 3) := by decide +kernel
theorem dX6_act_187 : decode cX6_act 187 = .ok (.iconst 1, 1) := by decide +kernel
theorem dX6_act_188 : decode cX6_act 188 = .ok (.goto 4, 3) := by decide +kernel
theorem dX6_act_191 : decode cX6_act 191 = .ok (.iconst 0, 1) := by decide +kernel
theorem dX6_act_192 : decode cX6_act 192 = .ok (.iastore, 1) := by decide +kernel
theorem dX6_act_193 : decode cX6_act 193 = .ok (.aload_n 0, 1) := by decide +kernel
theorem dX6_act_194 : decode cX6_act 194 = .ok (.iload 9, 2) := by decide +kernel
theorem dX6_act_196 : decode cX6_act 196 = .ok (.invokevirtual 91, 3) := by decide +kernel
theorem dX6_act_199 : decode cX6_act 199 = .ok (.ifCond .eq 41, 3) := by decide +kernel
theorem dX6_act_202 : decode cX6_act 202 = .ok (.aload_n 0, 1) := by decide +kernel
theorem dX6_act_203 : decode cX6_act 203 = .ok (.iload 9, 2) := by decide +kernel
theorem dX6_act_205 : decode cX6_act 205 = .ok (.iload 7, 2) := by decide +kernel
theorem dX6_act_207 : decode cX6_act 207 = .ok (.invokevirtual 102, 3) := by decide +kernel
theorem dX6_act_210 : decode cX6_act 210 = .ok (.ifCond .eq 30, 3) := by decide +kernel
theorem dX6_act_213 : decode cX6_act 213 = .ok (.aload_n 0, 1) := by decide +kernel
theorem dX6_act_214 : decode cX6_act 214 = .ok (.iload 9, 2) := by decide +kernel
theorem dX6_act_216 : decode cX6_act 216 = .ok (.iload_n 2, 1) := by decide +kernel
theorem dX6_act_217 : decode cX6_act 217 = .ok (.invokevirtual 153, 3) := by decide +kernel
theorem dX6_act_220 : decode cX6_act 220 = .ok (.iload 8, 2) := by decide +kernel
theorem dX6_act_222 : decode cX6_act 222 = .ok (.aload_n 0, 1) := by decide +kernel
theorem dX6_act_223 : decode cX6_act 223 = .ok (.getfield 56, 3) := by decide +kernel
theorem dX6_act_226 : decode cX6_act 226 = .ok (.iload 7, 2) := by decide +kernel
theorem dX6_act_228 : decode cX6_act 228 = .ok (.baload, 1) := by decide +kernel
theorem dX6_act_229 : decode cX6_act 229 = .ok (.ifCond .eq 7, 3) := by decide +kernel
theorem dX6_act_232 : decode cX6_act 232 = .ok (.iconst 1, 1) := by decide +kernel
theorem dX6_act_233 : decode cX6_act 233 = .ok (.goto 4, 3) := by decide +kernel
theorem dX6_act_236 : decode cX6_act 236 = .ok (.iconst 0, 1) := by decide +kernel
theorem dX6_act_237 : decode cX6_act 237 = .ok (.iadd, 1) := by decide +kernel
theorem dX6_act_238 : decode cX6_act 238 = .ok (.istore 8, 2) := by decide +kernel
theorem dX6_act_240 : decode cX6_act 240 = .ok (.iinc 9 1, 3) := by decide +kernel
theorem dX6_act_243 : decode cX6_act 243 = .ok (.goto (-93), 3) := by decide +kernel
theorem dX6_act_246 : decode cX6_act 246 = .ok (.aload_n 0, 1) := by decide +kernel
theorem dX6_act_247 : decode cX6_act 247 = .ok (.invokevirtual 157, 3) := by decide +kernel
theorem dX6_act_250 : decode cX6_act 250 = .ok (.istore 9, 2) := by decide +kernel
theorem dX6_act_252 : decode cX6_act 252 = .ok (.aload_n 0, 1) := by decide +kernel
theorem dX6_act_253 : decode cX6_act 253 = .ok (.getfield 53, 3) := by decide +kernel
theorem dX6_act_256 : decode cX6_act 256 = .ok (.iload 7, 2) := by decide +kernel
theorem dX6_act_258 : decode cX6_act 258 = .ok (.iload_n 1, 1) := by decide +kernel
theorem dX6_act_259 : decode cX6_act 259 = .ok (.bipush 6, 2) := by decide +kernel
theorem dX6_act_261 : decode cX6_act 261 = .ok (.if_icmp .eq 24, 3) := by decide +kernel
theorem dX6_act_264 : decode cX6_act 264 = .ok (.iload 8, 2) := by decide +kernel
theorem dX6_act_266 : decode cX6_act 266 = .ok (.iload 9, 2) := by decide +kernel
theorem dX6_act_268 : decode cX6_act 268 = .ok (.iconst 2, 1) := by decide +kernel
theorem dX6_act_269 : decode cX6_act 269 = .ok (.if_icmp .ge 8, 3) := by decide +kernel
theorem dX6_act_272 : decode cX6_act 272 = .ok (.iload 9, 2) := by decide +kernel
theorem dX6_act_274 : decode cX6_act 274 = .ok (.goto 4, 3) := by decide +kernel
theorem dX6_act_277 : decode cX6_act 277 = .ok (.iconst 2, 1) := by decide +kernel
theorem dX6_act_278 : decode cX6_act 278 = .ok (.if_icmp .lt 7, 3) := by decide +kernel
theorem dX6_act_281 : decode cX6_act 281 = .ok (.iconst 1, 1) := by decide +kernel
theorem dX6_act_282 : decode cX6_act 282 = .ok (.goto 4, 3) := by decide +kernel
theorem dX6_act_285 : decode cX6_act 285 = .ok (.iconst 0, 1) := by decide +kernel
theorem dX6_act_286 : decode cX6_act 286 = .ok (.bastore, 1) := by decide +kernel
theorem dX6_act_287 : decode cX6_act 287 = .ok (.iload 7, 2) := by decide +kernel
theorem dX6_act_289 : decode cX6_act 289 = .ok (.ireturn, 1) := by decide +kernel
theorem dX6_about_0 : decode cX6_about 0 = .ok (.iload_n 1, 1) := by decide +kernel
theorem dX6_about_1 : decode cX6_about 1 = .ok (.i2l, 1) := by decide +kernel
theorem dX6_about_2 : decode cX6_about 2 = .ok (.lconst 0, 1) := by decide +kernel
theorem dX6_about_3 : decode cX6_about 3 = .ok (.aload_n 0, 1) := by decide +kernel
theorem dX6_about_4 : decode cX6_about 4 = .ok (.getfield 106, 3) := by decide +kernel
theorem dX6_about_7 : decode cX6_about 7 = .ok (.iconst 1, 1) := by decide +kernel
theorem dX6_about_8 : decode cX6_about 8 = .ok (.isub, 1) := by decide +kernel
theorem dX6_about_9 : decode cX6_about 9 = .ok (.i2l, 1) := by decide +kernel
theorem dX6_about_10 : decode cX6_about 10 = .ok (.invokestatic 87, 3) := by decide +kernel
theorem dX6_about_13 : decode cX6_about 13 = .ok (.ifCond .ne 5, 3) := by decide +kernel
theorem dX6_about_16 : decode cX6_about 16 = .ok (.iconst (-1), 1) := by decide +kernel
theorem dX6_about_17 : decode cX6_about 17 = .ok (.ireturn, 1) := by decide +kernel
theorem dX6_about_18 : decode cX6_about 18 = .ok (.iload_n 2, 1) := by decide +kernel
theorem dX6_about_19 : decode cX6_about 19 = .ok (.tableswitch 119 0 8 #[49, 56, 63, 70, 77, 84, 91, 106, 113], 49) := by decide +kernel
theorem dX6_about_68 : decode cX6_about 68 = .ok (.aload_n 0, 1) := by decide +kernel
theorem dX6_about_69 : decode cX6_about 69 = .ok (.getfield 32, 3) := by decide +kernel
theorem dX6_about_72 : decode cX6_about 72 = .ok (.iload_n 1, 1) := by decide +kernel
theorem dX6_about_73 : decode cX6_about 73 = .ok (.iaload, 1) := by decide +kernel
theorem dX6_about_74 : decode cX6_about 74 = .ok (.ireturn, 1) := by decide +kernel
theorem dX6_about_75 : decode cX6_about 75 = .ok (.aload_n 0, 1) := by decide +kernel
theorem dX6_about_76 : decode cX6_about 76 = .ok (.getfield 35, 3) := by decide +kernel
theorem dX6_about_79 : decode cX6_about 79 = .ok (.iload_n 1, 1) := by decide +kernel
theorem dX6_about_80 : decode cX6_about 80 = .ok (.iaload, 1) := by decide +kernel
theorem dX6_about_81 : decode cX6_about 81 = .ok (.ireturn, 1) := by decide +kernel
theorem dX6_about_82 : decode cX6_about 82 = .ok (.aload_n 0, 1) := by decide +kernel
theorem dX6_about_83 : decode cX6_about 83 = .ok (.getfield 38, 3) := by decide +kernel
theorem dX6_about_86 : decode cX6_about 86 = .ok (.iload_n 1, 1) := by decide +kernel
theorem dX6_about_87 : decode cX6_about 87 = .ok (.iaload, 1) := by decide +kernel
theorem dX6_about_88 : decode cX6_about 88 = .ok (.ireturn, 1) := by decide +kernel
theorem dX6_about_89 : decode cX6_about 89 = .ok (.aload_n 0, 1) := by decide +kernel
theorem dX6_about_90 : decode cX6_about 90 = .ok (.getfield 41, 3) := by decide +kernel
theorem dX6_about_93 : decode cX6_about 93 = .ok (.iload_n 1, 1) := by decide +kernel
theorem dX6_about_94 : decode cX6_about 94 = .ok (.iaload, 1) := by decide +kernel
theorem dX6_about_95 : decode cX6_about 95 = .ok (.ireturn, 1) := by decide +kernel
theorem dX6_about_96 : decode cX6_about 96 = .ok (.aload_n 0, 1) := by decide +kernel
theorem dX6_about_97 : decode cX6_about 97 = .ok (.getfield 44, 3) := by decide +kernel
theorem dX6_about_100 : decode cX6_about 100 = .ok (.iload_n 1, 1) := by decide +kernel
theorem dX6_about_101 : decode cX6_about 101 = .ok (.iaload, 1) := by decide +kernel
theorem dX6_about_102 : decode cX6_about 102 = .ok (.ireturn, 1) := by decide +kernel
theorem dX6_about_103 : decode cX6_about 103 = .ok (.aload_n 0, 1) := by decide +kernel
theorem dX6_about_104 : decode cX6_about 104 = .ok (.getfield 47, 3) := by decide +kernel
theorem dX6_about_107 : decode cX6_about 107 = .ok (.iload_n 1, 1) := by decide +kernel
theorem dX6_about_108 : decode cX6_about 108 = .ok (.iaload, 1) := by decide +kernel
theorem dX6_about_109 : decode cX6_about 109 = .ok (.ireturn, 1) := by decide +kernel
theorem dX6_about_110 : decode cX6_about 110 = .ok (.aload_n 0, 1) := by decide +kernel
theorem dX6_about_111 : decode cX6_about 111 = .ok (.getfield 53, 3) := by decide +kernel
theorem dX6_about_114 : decode cX6_about 114 = .ok (.iload_n 1, 1) := by decide +kernel
theorem dX6_about_115 : decode cX6_about 115 = .ok (.baload, 1) := by decide +kernel
theorem dX6_about_116 : decode cX6_about 116 = .ok (.ifCond .eq 7, 3) := by decide +kernel
theorem dX6_about_119 : decode cX6_about 119 = .ok (.iconst 1, 1) := by decide +kernel
theorem dX6_about_120 : decode cX6_about 120 = .ok (.goto 4, 3) := by decide +kernel
theorem dX6_about_123 : decode cX6_about 123 = .ok (.iconst 0, 1) := by decide +kernel
theorem dX6_about_124 : decode cX6_about 124 = .ok (.ireturn, 1) := by decide +kernel
theorem dX6_about_125 : decode cX6_about 125 = .ok (.aload_n 0, 1) := by decide +kernel
theorem dX6_about_126 : decode cX6_about 126 = .ok (.getfield 50, 3) := by decide +kernel
theorem dX6_about_129 : decode cX6_about 129 = .ok (.iload_n 1, 1) := by decide +kernel
theorem dX6_about_130 : decode cX6_about 130 = .ok (.iaload, 1) := by decide +kernel
theorem dX6_about_131 : decode cX6_about 131 = .ok (.ireturn, 1) := by decide +kernel
theorem dX6_about_132 : decode cX6_about 132 = .ok (.aload_n 0, 1) := by decide +kernel
theorem dX6_about_133 : decode cX6_about 133 = .ok (.iload_n 1, 1) := by decide +kernel
theorem dX6_about_134 : decode cX6_about 134 = .ok (.invokevirtual 109, 3) := by decide +kernel
theorem dX6_about_137 : decode cX6_about 137 = .ok (.ireturn, 1) := by decide +kernel
theorem dX6_about_138 : decode cX6_about 138 = .ok (.iconst (-1), 1) := by decide +kernel
theorem dX6_about_139 : decode cX6_about 139 = .ok (.ireturn, 1) := by decide +kernel
theorem dX6_knows_0 : decode cX6_knows 0 = .ok (.aload_n 0, 1) := by decide +kernel
theorem dX6_knows_1 : decode cX6_knows 1 = .ok (.iload_n 1, 1) := by decide +kernel
theorem dX6_knows_2 : decode cX6_knows 2 = .ok (.invokevirtual 113, 3) := by decide +kernel
theorem dX6_knows_5 : decode cX6_knows 5 = .ok (.ifCond .eq 19, 3) := by decide +kernel
theorem dX6_knows_8 : decode cX6_knows 8 = .ok (.iload_n 2, 1) := by decide +kernel
theorem dX6_knows_9 : decode cX6_knows 9 = .ok (.i2l, 1) := by decide +kernel
theorem dX6_knows_10 : decode cX6_knows 10 = .ok (.lconst 0, 1) := by decide +kernel
theorem dX6_knows_11 : decode cX6_knows 11 = .ok (.aload_n 0, 1) := by decide +kernel
theorem dX6_knows_12 : decode cX6_knows 12 = .ok (.getfield 106, 3) := by decide +kernel
theorem dX6_knows_15 : decode cX6_knows 15 = .ok (.iconst 1, 1) := by decide +kernel
theorem dX6_knows_16 : decode cX6_knows 16 = .ok (.isub, 1) := by decide +kernel
theorem dX6_knows_17 : decode cX6_knows 17 = .ok (.i2l, 1) := by decide +kernel
theorem dX6_knows_18 : decode cX6_knows 18 = .ok (.invokestatic 87, 3) := by decide +kernel
theorem dX6_knows_21 : decode cX6_knows 21 = .ok (.ifCond .ne 5, 3) := by decide +kernel
theorem dX6_knows_24 : decode cX6_knows 24 = .ok (.iconst (-1), 1) := by decide +kernel
theorem dX6_knows_25 : decode cX6_knows 25 = .ok (.ireturn, 1) := by decide +kernel
theorem dX6_knows_26 : decode cX6_knows 26 = .ok (.aload_n 0, 1) := by decide +kernel
theorem dX6_knows_27 : decode cX6_knows 27 = .ok (.iload_n 1, 1) := by decide +kernel
theorem dX6_knows_28 : decode cX6_knows 28 = .ok (.iload_n 2, 1) := by decide +kernel
theorem dX6_knows_29 : decode cX6_knows 29 = .ok (.invokevirtual 102, 3) := by decide +kernel
theorem dX6_knows_32 : decode cX6_knows 32 = .ok (.ifCond .eq 19, 3) := by decide +kernel
theorem dX6_knows_35 : decode cX6_knows 35 = .ok (.aload_n 0, 1) := by decide +kernel
theorem dX6_knows_36 : decode cX6_knows 36 = .ok (.getfield 20, 3) := by decide +kernel
theorem dX6_knows_39 : decode cX6_knows 39 = .ok (.bipush 60, 2) := by decide +kernel
theorem dX6_knows_41 : decode cX6_knows 41 = .ok (.iload_n 1, 1) := by decide +kernel
theorem dX6_knows_42 : decode cX6_knows 42 = .ok (.imul, 1) := by decide +kernel
theorem dX6_knows_43 : decode cX6_knows 43 = .ok (.iload_n 2, 1) := by decide +kernel
theorem dX6_knows_44 : decode cX6_knows 44 = .ok (.iadd, 1) := by decide +kernel
theorem dX6_knows_45 : decode cX6_knows 45 = .ok (.iaload, 1) := by decide +kernel
theorem dX6_knows_46 : decode cX6_knows 46 = .ok (.iconst 1, 1) := by decide +kernel
theorem dX6_knows_47 : decode cX6_knows 47 = .ok (.isub, 1) := by decide +kernel
theorem dX6_knows_48 : decode cX6_knows 48 = .ok (.goto 5, 3) := by decide +kernel
theorem dX6_knows_51 : decode cX6_knows 51 = .ok (.bipush (-4), 2) := by decide +kernel
theorem dX6_knows_53 : decode cX6_knows 53 = .ok (.ireturn, 1) := by decide +kernel
theorem dX6_isBanned_0 : decode cX6_isBanned 0 = .ok (.aload_n 0, 1) := by decide +kernel
theorem dX6_isBanned_1 : decode cX6_isBanned 1 = .ok (.getfield 160, 3) := by decide +kernel
theorem dX6_isBanned_4 : decode cX6_isBanned 4 = .ok (.aload_n 0, 1) := by decide +kernel
theorem dX6_isBanned_5 : decode cX6_isBanned 5 = .ok (.getfield 32, 3) := by decide +kernel
theorem dX6_isBanned_8 : decode cX6_isBanned 8 = .ok (.iload_n 1, 1) := by decide +kernel
theorem dX6_isBanned_9 : decode cX6_isBanned 9 = .ok (.iaload, 1) := by decide +kernel
theorem dX6_isBanned_10 : decode cX6_isBanned 10 = .ok (.ishr, 1) := by decide +kernel
theorem dX6_isBanned_11 : decode cX6_isBanned 11 = .ok (.iconst 1, 1) := by decide +kernel
theorem dX6_isBanned_12 : decode cX6_isBanned 12 = .ok (.iand, 1) := by decide +kernel
theorem dX6_isBanned_13 : decode cX6_isBanned 13 = .ok (.iconst 1, 1) := by decide +kernel
theorem dX6_isBanned_14 : decode cX6_isBanned 14 = .ok (.if_icmp .ne 7, 3) := by decide +kernel
theorem dX6_isBanned_17 : decode cX6_isBanned 17 = .ok (.iconst 1, 1) := by decide +kernel
theorem dX6_isBanned_18 : decode cX6_isBanned 18 = .ok (.goto 4, 3) := by decide +kernel
theorem dX6_isBanned_21 : decode cX6_isBanned 21 = .ok (.iconst 0, 1) := by decide +kernel
theorem dX6_isBanned_22 : decode cX6_isBanned 22 = .ok (.ireturn, 1) := by decide +kernel
theorem dX6_hear_0 : decode cX6_hear 0 = .ok (.aload_n 0, 1) := by decide +kernel
theorem dX6_hear_1 : decode cX6_hear 1 = .ok (.getfield 20, 3) := by decide +kernel
theorem dX6_hear_4 : decode cX6_hear 4 = .ok (.bipush 60, 2) := by decide +kernel
theorem dX6_hear_6 : decode cX6_hear 6 = .ok (.iload_n 1, 1) := by decide +kernel
theorem dX6_hear_7 : decode cX6_hear 7 = .ok (.imul, 1) := by decide +kernel
theorem dX6_hear_8 : decode cX6_hear 8 = .ok (.iload_n 3, 1) := by decide +kernel
theorem dX6_hear_9 : decode cX6_hear 9 = .ok (.iadd, 1) := by decide +kernel
theorem dX6_hear_10 : decode cX6_hear 10 = .ok (.iaload, 1) := by decide +kernel
theorem dX6_hear_11 : decode cX6_hear 11 = .ok (.iconst 1, 1) := by decide +kernel
theorem dX6_hear_12 : decode cX6_hear 12 = .ok (.iadd, 1) := by decide +kernel
theorem dX6_hear_13 : decode cX6_hear 13 = .ok (.istore 4, 2) := by decide +kernel
theorem dX6_hear_15 : decode cX6_hear 15 = .ok (.aload_n 0, 1) := by decide +kernel
theorem dX6_hear_16 : decode cX6_hear 16 = .ok (.getfield 20, 3) := by decide +kernel
theorem dX6_hear_19 : decode cX6_hear 19 = .ok (.bipush 60, 2) := by decide +kernel
theorem dX6_hear_21 : decode cX6_hear 21 = .ok (.iload_n 2, 1) := by decide +kernel
theorem dX6_hear_22 : decode cX6_hear 22 = .ok (.imul, 1) := by decide +kernel
theorem dX6_hear_23 : decode cX6_hear 23 = .ok (.iload_n 3, 1) := by decide +kernel
theorem dX6_hear_24 : decode cX6_hear 24 = .ok (.iadd, 1) := by decide +kernel
theorem dX6_hear_25 : decode cX6_hear 25 = .ok (.iaload, 1) := by decide +kernel
theorem dX6_hear_26 : decode cX6_hear 26 = .ok (.istore 5, 2) := by decide +kernel
theorem dX6_hear_28 : decode cX6_hear 28 = .ok (.iload 5, 2) := by decide +kernel
theorem dX6_hear_30 : decode cX6_hear 30 = .ok (.ifCond .eq 10, 3) := by decide +kernel
theorem dX6_hear_33 : decode cX6_hear 33 = .ok (.iload 4, 2) := by decide +kernel
theorem dX6_hear_35 : decode cX6_hear 35 = .ok (.iload 5, 2) := by decide +kernel
theorem dX6_hear_37 : decode cX6_hear 37 = .ok (.if_icmp .ge 16, 3) := by decide +kernel
theorem dX6_hear_40 : decode cX6_hear 40 = .ok (.aload_n 0, 1) := by decide +kernel
theorem dX6_hear_41 : decode cX6_hear 41 = .ok (.getfield 20, 3) := by decide +kernel
theorem dX6_hear_44 : decode cX6_hear 44 = .ok (.bipush 60, 2) := by decide +kernel
theorem dX6_hear_46 : decode cX6_hear 46 = .ok (.iload_n 2, 1) := by decide +kernel
theorem dX6_hear_47 : decode cX6_hear 47 = .ok (.imul, 1) := by decide +kernel
theorem dX6_hear_48 : decode cX6_hear 48 = .ok (.iload_n 3, 1) := by decide +kernel
theorem dX6_hear_49 : decode cX6_hear 49 = .ok (.iadd, 1) := by decide +kernel
theorem dX6_hear_50 : decode cX6_hear 50 = .ok (.iload 4, 2) := by decide +kernel
theorem dX6_hear_52 : decode cX6_hear 52 = .ok (.iastore, 1) := by decide +kernel
theorem dX6_hear_53 : decode cX6_hear 53 = .ok (.iload 5, 2) := by decide +kernel
theorem dX6_hear_55 : decode cX6_hear 55 = .ok (.ifCond .ne 7, 3) := by decide +kernel
theorem dX6_hear_58 : decode cX6_hear 58 = .ok (.iconst 1, 1) := by decide +kernel
theorem dX6_hear_59 : decode cX6_hear 59 = .ok (.goto 4, 3) := by decide +kernel
theorem dX6_hear_62 : decode cX6_hear 62 = .ok (.iconst 0, 1) := by decide +kernel
theorem dX6_hear_63 : decode cX6_hear 63 = .ok (.ireturn, 1) := by decide +kernel
theorem dX6_tell_0 : decode cX6_tell 0 = .ok (.aload_n 0, 1) := by decide +kernel
theorem dX6_tell_1 : decode cX6_tell 1 = .ok (.iload_n 1, 1) := by decide +kernel
theorem dX6_tell_2 : decode cX6_tell 2 = .ok (.invokevirtual 113, 3) := by decide +kernel
theorem dX6_tell_5 : decode cX6_tell 5 = .ok (.ifCond .eq 32, 3) := by decide +kernel
theorem dX6_tell_8 : decode cX6_tell 8 = .ok (.aload_n 0, 1) := by decide +kernel
theorem dX6_tell_9 : decode cX6_tell 9 = .ok (.iload_n 2, 1) := by decide +kernel
theorem dX6_tell_10 : decode cX6_tell 10 = .ok (.invokevirtual 113, 3) := by decide +kernel
theorem dX6_tell_13 : decode cX6_tell 13 = .ok (.ifCond .eq 24, 3) := by decide +kernel
theorem dX6_tell_16 : decode cX6_tell 16 = .ok (.iload_n 1, 1) := by decide +kernel
theorem dX6_tell_17 : decode cX6_tell 17 = .ok (.iload_n 2, 1) := by decide +kernel
theorem dX6_tell_18 : decode cX6_tell 18 = .ok (.if_icmp .eq 19, 3) := by decide +kernel
theorem dX6_tell_21 : decode cX6_tell 21 = .ok (.iload_n 3, 1) := by decide +kernel
theorem dX6_tell_22 : decode cX6_tell 22 = .ok (.i2l, 1) := by decide +kernel
theorem dX6_tell_23 : decode cX6_tell 23 = .ok (.lconst 0, 1) := by decide +kernel
theorem dX6_tell_24 : decode cX6_tell 24 = .ok (.aload_n 0, 1) := by decide +kernel
theorem dX6_tell_25 : decode cX6_tell 25 = .ok (.getfield 106, 3) := by decide +kernel
theorem dX6_tell_28 : decode cX6_tell 28 = .ok (.iconst 1, 1) := by decide +kernel
theorem dX6_tell_29 : decode cX6_tell 29 = .ok (.isub, 1) := by decide +kernel
theorem dX6_tell_30 : decode cX6_tell 30 = .ok (.i2l, 1) := by decide +kernel
theorem dX6_tell_31 : decode cX6_tell 31 = .ok (.invokestatic 87, 3) := by decide +kernel
theorem dX6_tell_34 : decode cX6_tell 34 = .ok (.ifCond .ne 5, 3) := by decide +kernel
theorem dX6_tell_37 : decode cX6_tell 37 = .ok (.iconst (-1), 1) := by decide +kernel
theorem dX6_tell_38 : decode cX6_tell 38 = .ok (.ireturn, 1) := by decide +kernel
theorem dX6_tell_39 : decode cX6_tell 39 = .ok (.aload_n 0, 1) := by decide +kernel
theorem dX6_tell_40 : decode cX6_tell 40 = .ok (.getfield 13, 3) := by decide +kernel
theorem dX6_tell_43 : decode cX6_tell 43 = .ok (.iload_n 1, 1) := by decide +kernel
theorem dX6_tell_44 : decode cX6_tell 44 = .ok (.baload, 1) := by decide +kernel
theorem dX6_tell_45 : decode cX6_tell 45 = .ok (.ifCond .eq 29, 3) := by decide +kernel
theorem dX6_tell_48 : decode cX6_tell 48 = .ok (.aload_n 0, 1) := by decide +kernel
theorem dX6_tell_49 : decode cX6_tell 49 = .ok (.getfield 13, 3) := by decide +kernel
theorem dX6_tell_52 : decode cX6_tell 52 = .ok (.iload_n 2, 1) := by decide +kernel
theorem dX6_tell_53 : decode cX6_tell 53 = .ok (.baload, 1) := by decide +kernel
theorem dX6_tell_54 : decode cX6_tell 54 = .ok (.ifCond .eq 20, 3) := by decide +kernel
theorem dX6_tell_57 : decode cX6_tell 57 = .ok (.aload_n 0, 1) := by decide +kernel
theorem dX6_tell_58 : decode cX6_tell 58 = .ok (.iload_n 1, 1) := by decide +kernel
theorem dX6_tell_59 : decode cX6_tell 59 = .ok (.iload_n 3, 1) := by decide +kernel
theorem dX6_tell_60 : decode cX6_tell 60 = .ok (.invokevirtual 102, 3) := by decide +kernel
theorem dX6_tell_63 : decode cX6_tell 63 = .ok (.ifCond .eq 11, 3) := by decide +kernel
theorem dX6_tell_66 : decode cX6_tell 66 = .ok (.aload_n 0, 1) := by decide +kernel
theorem dX6_tell_67 : decode cX6_tell 67 = .ok (.iload_n 3, 1) := by decide +kernel
theorem dX6_tell_68 : decode cX6_tell 68 = .ok (.invokevirtual 163, 3) := by decide +kernel
theorem dX6_tell_71 : decode cX6_tell 71 = .ok (.ifCond .eq 6, 3) := by decide +kernel
theorem dX6_tell_74 : decode cX6_tell 74 = .ok (.bipush (-2), 2) := by decide +kernel
theorem dX6_tell_76 : decode cX6_tell 76 = .ok (.ireturn, 1) := by decide +kernel
theorem dX6_tell_77 : decode cX6_tell 77 = .ok (.aload_n 0, 1) := by decide +kernel
theorem dX6_tell_78 : decode cX6_tell 78 = .ok (.iload_n 1, 1) := by decide +kernel
theorem dX6_tell_79 : decode cX6_tell 79 = .ok (.iload_n 2, 1) := by decide +kernel
theorem dX6_tell_80 : decode cX6_tell 80 = .ok (.iload_n 3, 1) := by decide +kernel
theorem dX6_tell_81 : decode cX6_tell 81 = .ok (.invokevirtual 166, 3) := by decide +kernel
theorem dX6_tell_84 : decode cX6_tell 84 = .ok (.istore 4, 2) := by decide +kernel
theorem dX6_tell_86 : decode cX6_tell 86 = .ok (.aload_n 0, 1) := by decide +kernel
theorem dX6_tell_87 : decode cX6_tell 87 = .ok (.getfield 20, 3) := by decide +kernel
theorem dX6_tell_90 : decode cX6_tell 90 = .ok (.bipush 60, 2) := by decide +kernel
theorem dX6_tell_92 : decode cX6_tell 92 = .ok (.iload_n 2, 1) := by decide +kernel
theorem dX6_tell_93 : decode cX6_tell 93 = .ok (.imul, 1) := by decide +kernel
theorem dX6_tell_94 : decode cX6_tell 94 = .ok (.iload_n 3, 1) := by decide +kernel
theorem dX6_tell_95 : decode cX6_tell 95 = .ok (.iadd, 1) := by decide +kernel
theorem dX6_tell_96 : decode cX6_tell 96 = .ok (.iaload, 1) := by decide +kernel
theorem dX6_tell_97 : decode cX6_tell 97 = .ok (.iconst 1, 1) := by decide +kernel
theorem dX6_tell_98 : decode cX6_tell 98 = .ok (.isub, 1) := by decide +kernel
theorem dX6_tell_99 : decode cX6_tell 99 = .ok (.ireturn, 1) := by decide +kernel
theorem dX6_isKnown_0 : decode cX6_isKnown 0 = .ok (.iload_n 1, 1) := by decide +kernel
theorem dX6_isKnown_1 : decode cX6_isKnown 1 = .ok (.ifCond .lt 10, 3) := by decide +kernel
theorem dX6_isKnown_4 : decode cX6_isKnown 4 = .ok (.aload_n 0, 1) := by decide +kernel
theorem dX6_isKnown_5 : decode cX6_isKnown 5 = .ok (.iload_n 1, 1) := by decide +kernel
theorem dX6_isKnown_6 : decode cX6_isKnown 6 = .ok (.iload_n 2, 1) := by decide +kernel
theorem dX6_isKnown_7 : decode cX6_isKnown 7 = .ok (.invokevirtual 102, 3) := by decide +kernel
theorem dX6_isKnown_10 : decode cX6_isKnown 10 = .ok (.ireturn, 1) := by decide +kernel
theorem dX6_isKnown_11 : decode cX6_isKnown 11 = .ok (.aload_n 0, 1) := by decide +kernel
theorem dX6_isKnown_12 : decode cX6_isKnown 12 = .ok (.getfield 53, 3) := by decide +kernel
theorem dX6_isKnown_15 : decode cX6_isKnown 15 = .ok (.iload_n 2, 1) := by decide +kernel
theorem dX6_isKnown_16 : decode cX6_isKnown 16 = .ok (.baload, 1) := by decide +kernel
theorem dX6_isKnown_17 : decode cX6_isKnown 17 = .ok (.ifCond .eq 14, 3) := by decide +kernel
theorem dX6_isKnown_20 : decode cX6_isKnown 20 = .ok (.aload_n 0, 1) := by decide +kernel
theorem dX6_isKnown_21 : decode cX6_isKnown 21 = .ok (.invokevirtual 157, 3) := by decide +kernel
theorem dX6_isKnown_24 : decode cX6_isKnown 24 = .ok (.ifCond .le 7, 3) := by decide +kernel
theorem dX6_isKnown_27 : decode cX6_isKnown 27 = .ok (.iconst 1, 1) := by decide +kernel
theorem dX6_isKnown_28 : decode cX6_isKnown 28 = .ok (.goto 4, 3) := by decide +kernel
theorem dX6_isKnown_31 : decode cX6_isKnown 31 = .ok (.iconst 0, 1) := by decide +kernel
theorem dX6_isKnown_32 : decode cX6_isKnown 32 = .ok (.istore_n 3, 1) := by decide +kernel
theorem dX6_isKnown_33 : decode cX6_isKnown 33 = .ok (.iconst 0, 1) := by decide +kernel
theorem dX6_isKnown_34 : decode cX6_isKnown 34 = .ok (.istore 4, 2) := by decide +kernel
theorem dX6_isKnown_36 : decode cX6_isKnown 36 = .ok (.iload 4, 2) := by decide +kernel
theorem dX6_isKnown_38 : decode cX6_isKnown 38 = .ok (.aload_n 0, 1) := by decide +kernel
theorem dX6_isKnown_39 : decode cX6_isKnown 39 = .ok (.getfield 83, 3) := by decide +kernel
theorem dX6_isKnown_42 : decode cX6_isKnown 42 = .ok (.if_icmp .ge 38, 3) := by decide +kernel
theorem dX6_isKnown_45 : decode cX6_isKnown 45 = .ok (.iload_n 3, 1) := by decide +kernel
theorem dX6_isKnown_46 : decode cX6_isKnown 46 = .ok (.ifCond .eq 26, 3) := by decide +kernel
theorem dX6_isKnown_49 : decode cX6_isKnown 49 = .ok (.aload_n 0, 1) := by decide +kernel
theorem dX6_isKnown_50 : decode cX6_isKnown 50 = .ok (.iload 4, 2) := by decide +kernel
theorem dX6_isKnown_52 : decode cX6_isKnown 52 = .ok (.invokevirtual 91, 3) := by decide +kernel
theorem dX6_isKnown_55 : decode cX6_isKnown 55 = .ok (.ifCond .eq 13, 3) := by decide +kernel
theorem dX6_isKnown_58 : decode cX6_isKnown 58 = .ok (.aload_n 0, 1) := by decide +kernel
theorem dX6_isKnown_59 : decode cX6_isKnown 59 = .ok (.iload 4, 2) := by decide +kernel
theorem dX6_isKnown_61 : decode cX6_isKnown 61 = .ok (.iload_n 2, 1) := by decide +kernel
theorem dX6_isKnown_62 : decode cX6_isKnown 62 = .ok (.invokevirtual 102, 3) := by decide +kernel
theorem dX6_isKnown_65 : decode cX6_isKnown 65 = .ok (.ifCond .eq 7, 3) := by decide +kernel
theorem dX6_isKnown_68 : decode cX6_isKnown 68 = .ok (.iconst 1, 1) := by decide +kernel
theorem dX6_isKnown_69 : decode cX6_isKnown 69 = .ok (.goto 4, 3) := by decide +kernel
theorem dX6_isKnown_72 : decode cX6_isKnown 72 = .ok (.iconst 0, 1) := by decide +kernel
theorem dX6_isKnown_73 : decode cX6_isKnown 73 = .ok (.istore_n 3, 1) := by decide +kernel
theorem dX6_isKnown_74 : decode cX6_isKnown 74 = .ok (.iinc 4 1, 3) := by decide +kernel
theorem dX6_isKnown_77 : decode cX6_isKnown 77 = .ok (.goto (-41), 3) := by decide +kernel
theorem dX6_isKnown_80 : decode cX6_isKnown 80 = .ok (.iload_n 3, 1) := by decide +kernel
theorem dX6_isKnown_81 : decode cX6_isKnown 81 = .ok (.ireturn, 1) := by decide +kernel
theorem dX6_findKnowing_0 : decode cX6_findKnowing 0 = .ok (.iconst 0, 1) := by decide +kernel
theorem dX6_findKnowing_1 : decode cX6_findKnowing 1 = .ok (.istore_n 3, 1) := by decide +kernel
theorem dX6_findKnowing_2 : decode cX6_findKnowing 2 = .ok (.iload_n 3, 1) := by decide +kernel
theorem dX6_findKnowing_3 : decode cX6_findKnowing 3 = .ok (.bipush 16, 2) := by decide +kernel
theorem dX6_findKnowing_5 : decode cX6_findKnowing 5 = .ok (.if_icmp .ge 23, 3) := by decide +kernel
theorem dX6_findKnowing_8 : decode cX6_findKnowing 8 = .ok (.aload_n 0, 1) := by decide +kernel
theorem dX6_findKnowing_9 : decode cX6_findKnowing 9 = .ok (.getfield 62, 3) := by decide +kernel
theorem dX6_findKnowing_12 : decode cX6_findKnowing 12 = .ok (.iload_n 3, 1) := by decide +kernel
theorem dX6_findKnowing_13 : decode cX6_findKnowing 13 = .ok (.iconst 0, 1) := by decide +kernel
theorem dX6_findKnowing_14 : decode cX6_findKnowing 14 = .ok (.iastore, 1) := by decide +kernel
theorem dX6_findKnowing_15 : decode cX6_findKnowing 15 = .ok (.aload_n 0, 1) := by decide +kernel
theorem dX6_findKnowing_16 : decode cX6_findKnowing 16 = .ok (.getfield 65, 3) := by decide +kernel
theorem dX6_findKnowing_19 : decode cX6_findKnowing 19 = .ok (.iload_n 3, 1) := by decide +kernel
theorem dX6_findKnowing_20 : decode cX6_findKnowing 20 = .ok (.iconst 0, 1) := by decide +kernel
theorem dX6_findKnowing_21 : decode cX6_findKnowing 21 = .ok (.iastore, 1) := by decide +kernel
theorem dX6_findKnowing_22 : decode cX6_findKnowing 22 = .ok (.iinc 3 1, 3) := by decide +kernel
theorem dX6_findKnowing_25 : decode cX6_findKnowing 25 = .ok (.goto (-23), 3) := by decide +kernel
theorem dX6_findKnowing_28 : decode cX6_findKnowing 28 = .ok (.aload_n 0, 1) := by decide +kernel
theorem dX6_findKnowing_29 : decode cX6_findKnowing 29 = .ok (.iconst 0, 1) := by decide +kernel
theorem dX6_findKnowing_30 : decode cX6_findKnowing 30 = .ok (.putfield 170, 3) := by decide +kernel
theorem dX6_findKnowing_33 : decode cX6_findKnowing 33 = .ok (.aload_n 0, 1) := by decide +kernel
theorem dX6_findKnowing_34 : decode cX6_findKnowing 34 = .ok (.iconst 0, 1) := by decide +kernel
theorem dX6_findKnowing_35 : decode cX6_findKnowing 35 = .ok (.putfield 173, 3) := by decide +kernel
theorem dX6_findKnowing_38 : decode cX6_findKnowing 38 = .ok (.iconst 0, 1) := by decide +kernel
theorem dX6_findKnowing_39 : decode cX6_findKnowing 39 = .ok (.istore_n 3, 1) := by decide +kernel
theorem dX6_findKnowing_40 : decode cX6_findKnowing 40 = .ok (.iconst 0, 1) := by decide +kernel
theorem dX6_findKnowing_41 : decode cX6_findKnowing 41 = .ok (.istore 4, 2) := by decide +kernel
theorem dX6_findKnowing_43 : decode cX6_findKnowing 43 = .ok (.iload 4, 2) := by decide +kernel
theorem dX6_findKnowing_45 : decode cX6_findKnowing 45 = .ok (.aload_n 0, 1) := by decide +kernel
theorem dX6_findKnowing_46 : decode cX6_findKnowing 46 = .ok (.getfield 106, 3) := by decide +kernel
theorem dX6_findKnowing_49 : decode cX6_findKnowing 49 = .ok (.if_icmp .ge 54, 3) := by decide +kernel
theorem dX6_findKnowing_52 : decode cX6_findKnowing 52 = .ok (.aload_n 0, 1) := by decide +kernel
theorem dX6_findKnowing_53 : decode cX6_findKnowing 53 = .ok (.getfield 56, 3) := by decide +kernel
theorem dX6_findKnowing_56 : decode cX6_findKnowing 56 = .ok (.iload 4, 2) := by decide +kernel
theorem dX6_findKnowing_58 : decode cX6_findKnowing 58 = .ok (.iconst 0, 1) := by decide +kernel
theorem dX6_findKnowing_59 : decode cX6_findKnowing 59 = .ok (.bastore, 1) := by decide +kernel
theorem dX6_findKnowing_60 : decode cX6_findKnowing 60 = .ok (.aload_n 0, 1) := by decide +kernel
theorem dX6_findKnowing_61 : decode cX6_findKnowing 61 = .ok (.getfield 59, 3) := by decide +kernel
theorem dX6_findKnowing_64 : decode cX6_findKnowing 64 = .ok (.iload 4, 2) := by decide +kernel
theorem dX6_findKnowing_66 : decode cX6_findKnowing 66 = .ok (.iconst 0, 1) := by decide +kernel
theorem dX6_findKnowing_67 : decode cX6_findKnowing 67 = .ok (.bastore, 1) := by decide +kernel
theorem dX6_findKnowing_68 : decode cX6_findKnowing 68 = .ok (.aload_n 0, 1) := by decide +kernel
theorem dX6_findKnowing_69 : decode cX6_findKnowing 69 = .ok (.getfield 35, 3) := by decide +kernel
theorem dX6_findKnowing_72 : decode cX6_findKnowing 72 = .ok (.iload 4, 2) := by decide +kernel
theorem dX6_findKnowing_74 : decode cX6_findKnowing 74 = .ok (.iaload, 1) := by decide +kernel
theorem dX6_findKnowing_75 : decode cX6_findKnowing 75 = .ok (.iload_n 2, 1) := by decide +kernel
theorem dX6_findKnowing_76 : decode cX6_findKnowing 76 = .ok (.if_icmp .ne 21, 3) := by decide +kernel
theorem dX6_findKnowing_79 : decode cX6_findKnowing 79 = .ok (.aload_n 0, 1) := by decide +kernel
theorem dX6_findKnowing_80 : decode cX6_findKnowing 80 = .ok (.iload_n 1, 1) := by decide +kernel
theorem dX6_findKnowing_81 : decode cX6_findKnowing 81 = .ok (.iload 4, 2) := by decide +kernel
theorem dX6_findKnowing_83 : decode cX6_findKnowing 83 = .ok (.invokevirtual 176, 3) := by decide +kernel
theorem dX6_findKnowing_86 : decode cX6_findKnowing 86 = .ok (.ifCond .eq 11, 3) := by decide +kernel
theorem dX6_findKnowing_89 : decode cX6_findKnowing 89 = .ok (.aload_n 0, 1) := by decide +kernel
theorem dX6_findKnowing_90 : decode cX6_findKnowing 90 = .ok (.iload 4, 2) := by decide +kernel
theorem dX6_findKnowing_92 : decode cX6_findKnowing 92 = .ok (.iload_n 3, 1) := by decide +kernel
theorem dX6_findKnowing_93 : decode cX6_findKnowing 93 = .ok (.invokevirtual 179, 3) := by decide +kernel
theorem dX6_findKnowing_96 : decode cX6_findKnowing 96 = .ok (.istore_n 3, 1) := by decide +kernel
theorem dX6_findKnowing_97 : decode cX6_findKnowing 97 = .ok (.iinc 4 1, 3) := by decide +kernel
theorem dX6_findKnowing_100 : decode cX6_findKnowing 100 = .ok (.goto (-57), 3) := by decide +kernel
theorem dX6_findKnowing_103 : decode cX6_findKnowing 103 = .ok (.return_, 1) := by decide +kernel
theorem dX6_holdAct_0 : decode cX6_holdAct 0 = .ok (.aload_n 0, 1) := by decide +kernel
theorem dX6_holdAct_1 : decode cX6_holdAct 1 = .ok (.getfield 38, 3) := by decide +kernel
theorem dX6_holdAct_4 : decode cX6_holdAct 4 = .ok (.iload_n 1, 1) := by decide +kernel
theorem dX6_holdAct_5 : decode cX6_holdAct 5 = .ok (.iaload, 1) := by decide +kernel
theorem dX6_holdAct_6 : decode cX6_holdAct 6 = .ok (.istore_n 3, 1) := by decide +kernel
theorem dX6_holdAct_7 : decode cX6_holdAct 7 = .ok (.aload_n 0, 1) := by decide +kernel
theorem dX6_holdAct_8 : decode cX6_holdAct 8 = .ok (.getfield 41, 3) := by decide +kernel
theorem dX6_holdAct_11 : decode cX6_holdAct 11 = .ok (.iload_n 1, 1) := by decide +kernel
theorem dX6_holdAct_12 : decode cX6_holdAct 12 = .ok (.iaload, 1) := by decide +kernel
theorem dX6_holdAct_13 : decode cX6_holdAct 13 = .ok (.istore 4, 2) := by decide +kernel
theorem dX6_holdAct_15 : decode cX6_holdAct 15 = .ok (.aload_n 0, 1) := by decide +kernel
theorem dX6_holdAct_16 : decode cX6_holdAct 16 = .ok (.getfield 44, 3) := by decide +kernel
theorem dX6_holdAct_19 : decode cX6_holdAct 19 = .ok (.iload_n 1, 1) := by decide +kernel
theorem dX6_holdAct_20 : decode cX6_holdAct 20 = .ok (.iaload, 1) := by decide +kernel
theorem dX6_holdAct_21 : decode cX6_holdAct 21 = .ok (.istore 5, 2) := by decide +kernel
theorem dX6_holdAct_23 : decode cX6_holdAct 23 = .ok (.aload_n 0, 1) := by decide +kernel
theorem dX6_holdAct_24 : decode cX6_holdAct 24 = .ok (.getfield 32, 3) := by decide +kernel
theorem dX6_holdAct_27 : decode cX6_holdAct 27 = .ok (.iload_n 1, 1) := by decide +kernel
theorem dX6_holdAct_28 : decode cX6_holdAct 28 = .ok (.iaload, 1) := by decide +kernel
theorem dX6_holdAct_29 : decode cX6_holdAct 29 = .ok (.tableswitch 245 0 5 #[39, 60, 60, 134, 172, 225], 39) := by decide +kernel
theorem dX6_holdAct_68 : decode cX6_holdAct 68 = .ok (.iload_n 2, 1) := by decide +kernel
theorem dX6_holdAct_69 : decode cX6_holdAct 69 = .ok (.ifCond .ne 18, 3) := by decide +kernel
theorem dX6_holdAct_72 : decode cX6_holdAct 72 = .ok (.aload_n 0, 1) := by decide +kernel
theorem dX6_holdAct_73 : decode cX6_holdAct 73 = .ok (.getfield 62, 3) := by decide +kernel
theorem dX6_holdAct_76 : decode cX6_holdAct 76 = .ok (.iload_n 3, 1) := by decide +kernel
theorem dX6_holdAct_77 : decode cX6_holdAct 77 = .ok (.bipush 12, 2) := by decide +kernel
theorem dX6_holdAct_79 : decode cX6_holdAct 79 = .ok (.iastore, 1) := by decide +kernel
theorem dX6_holdAct_80 : decode cX6_holdAct 80 = .ok (.aload_n 0, 1) := by decide +kernel
theorem dX6_holdAct_81 : decode cX6_holdAct 81 = .ok (.getfield 56, 3) := by decide +kernel
theorem dX6_holdAct_84 : decode cX6_holdAct 84 = .ok (.iload_n 1, 1) := by decide +kernel
theorem dX6_holdAct_85 : decode cX6_holdAct 85 = .ok (.iconst 1, 1) := by decide +kernel
theorem dX6_holdAct_86 : decode cX6_holdAct 86 = .ok (.bastore, 1) := by decide +kernel
theorem dX6_holdAct_87 : decode cX6_holdAct 87 = .ok (.iconst 1, 1) := by decide +kernel
theorem dX6_holdAct_88 : decode cX6_holdAct 88 = .ok (.ireturn, 1) := by decide +kernel
theorem dX6_holdAct_89 : decode cX6_holdAct 89 = .ok (.aload_n 0, 1) := by decide +kernel
theorem dX6_holdAct_90 : decode cX6_holdAct 90 = .ok (.getfield 62, 3) := by decide +kernel
theorem dX6_holdAct_93 : decode cX6_holdAct 93 = .ok (.iload_n 3, 1) := by decide +kernel
theorem dX6_holdAct_94 : decode cX6_holdAct 94 = .ok (.iaload, 1) := by decide +kernel
theorem dX6_holdAct_95 : decode cX6_holdAct 95 = .ok (.aload_n 0, 1) := by decide +kernel
theorem dX6_holdAct_96 : decode cX6_holdAct 96 = .ok (.getfield 65, 3) := by decide +kernel
theorem dX6_holdAct_99 : decode cX6_holdAct 99 = .ok (.iload_n 3, 1) := by decide +kernel
theorem dX6_holdAct_100 : decode cX6_holdAct 100 = .ok (.iaload, 1) := by decide +kernel
theorem dX6_holdAct_101 : decode cX6_holdAct 101 = .ok (.isub, 1) := by decide +kernel
theorem dX6_holdAct_102 : decode cX6_holdAct 102 = .ok (.iload 5, 2) := by decide +kernel
theorem dX6_holdAct_104 : decode cX6_holdAct 104 = .ok (.if_icmp .lt 57, 3) := by decide +kernel
theorem dX6_holdAct_107 : decode cX6_holdAct 107 = .ok (.aload_n 0, 1) := by decide +kernel
theorem dX6_holdAct_108 : decode cX6_holdAct 108 = .ok (.getfield 62, 3) := by decide +kernel
theorem dX6_holdAct_111 : decode cX6_holdAct 111 = .ok (.iload_n 3, 1) := by decide +kernel
theorem dX6_holdAct_112 : decode cX6_holdAct 112 = .ok (.dup2, 1) := by decide +kernel
theorem dX6_holdAct_113 : decode cX6_holdAct 113 = .ok (.iaload, 1) := by decide +kernel
theorem dX6_holdAct_114 : decode cX6_holdAct 114 = .ok (.iload 5, 2) := by decide +kernel
theorem dX6_holdAct_116 : decode cX6_holdAct 116 = .ok (.isub, 1) := by decide +kernel
theorem dX6_holdAct_117 : decode cX6_holdAct 117 = .ok (.iastore, 1) := by decide +kernel
theorem dX6_holdAct_118 : decode cX6_holdAct 118 = .ok (.aload_n 0, 1) := by decide +kernel
theorem dX6_holdAct_119 : decode cX6_holdAct 119 = .ok (.getfield 62, 3) := by decide +kernel
theorem dX6_holdAct_122 : decode cX6_holdAct 122 = .ok (.iload 4, 2) := by decide +kernel
theorem dX6_holdAct_124 : decode cX6_holdAct 124 = .ok (.dup2, 1) := by decide +kernel
theorem dX6_holdAct_125 : decode cX6_holdAct 125 = .ok (.iaload, 1) := by decide +kernel
theorem dX6_holdAct_126 : decode cX6_holdAct 126 = .ok (.iload 5, 2) := by decide +kernel
theorem dX6_holdAct_128 : decode cX6_holdAct 128 = .ok (.iadd, 1) := by decide +kernel
theorem dX6_holdAct_129 : decode cX6_holdAct 129 = .ok (.iastore, 1) := by decide +kernel
theorem dX6_holdAct_130 : decode cX6_holdAct 130 = .ok (.aload_n 0, 1) := by decide +kernel
theorem dX6_holdAct_131 : decode cX6_holdAct 131 = .ok (.dup, 1) := by decide +kernel
theorem dX6_holdAct_132 : decode cX6_holdAct 132 = .ok (.getfield 173, 3) := by decide +kernel
theorem dX6_holdAct_135 : decode cX6_holdAct 135 = .ok (.aload_n 0, 1) := by decide +kernel
theorem dX6_holdAct_136 : decode cX6_holdAct 136 = .ok (.getfield 32, 3) := by decide +kernel
theorem dX6_holdAct_139 : decode cX6_holdAct 139 = .ok (.iload_n 1, 1) := by decide +kernel
theorem dX6_holdAct_140 : decode cX6_holdAct 140 = .ok (.iaload, 1) := by decide +kernel
theorem dX6_holdAct_141 : decode cX6_holdAct 141 = .ok (.iconst 2, 1) := by decide +kernel
theorem dX6_holdAct_142 : decode cX6_holdAct 142 = .ok (.if_icmp .ne 7, 3) := by decide +kernel
theorem dX6_holdAct_145 : decode cX6_holdAct 145 = .ok (.iconst 1, 1) := by decide +kernel
theorem dX6_holdAct_146 : decode cX6_holdAct 146 = .ok (.goto 4, 3) := by decide +kernel
theorem dX6_holdAct_149 : decode cX6_holdAct 149 = .ok (.iconst 0, 1) := by decide +kernel
theorem dX6_holdAct_150 : decode cX6_holdAct 150 = .ok (.iadd, 1) := by decide +kernel
theorem dX6_holdAct_151 : decode cX6_holdAct 151 = .ok (.putfield 173, 3) := by decide +kernel
theorem dX6_holdAct_154 : decode cX6_holdAct 154 = .ok (.aload_n 0, 1) := by decide +kernel
theorem dX6_holdAct_155 : decode cX6_holdAct 155 = .ok (.getfield 56, 3) := by decide +kernel
theorem dX6_holdAct_158 : decode cX6_holdAct 158 = .ok (.iload_n 1, 1) := by decide +kernel
theorem dX6_holdAct_159 : decode cX6_holdAct 159 = .ok (.iconst 1, 1) := by decide +kernel
theorem dX6_holdAct_160 : decode cX6_holdAct 160 = .ok (.bastore, 1) := by decide +kernel
theorem dX6_holdAct_161 : decode cX6_holdAct 161 = .ok (.iload_n 2, 1) := by decide +kernel
theorem dX6_holdAct_162 : decode cX6_holdAct 162 = .ok (.ireturn, 1) := by decide +kernel
theorem dX6_holdAct_163 : decode cX6_holdAct 163 = .ok (.aload_n 0, 1) := by decide +kernel
theorem dX6_holdAct_164 : decode cX6_holdAct 164 = .ok (.getfield 62, 3) := by decide +kernel
theorem dX6_holdAct_167 : decode cX6_holdAct 167 = .ok (.iload_n 3, 1) := by decide +kernel
theorem dX6_holdAct_168 : decode cX6_holdAct 168 = .ok (.iaload, 1) := by decide +kernel
theorem dX6_holdAct_169 : decode cX6_holdAct 169 = .ok (.aload_n 0, 1) := by decide +kernel
theorem dX6_holdAct_170 : decode cX6_holdAct 170 = .ok (.getfield 65, 3) := by decide +kernel
theorem dX6_holdAct_173 : decode cX6_holdAct 173 = .ok (.iload_n 3, 1) := by decide +kernel
theorem dX6_holdAct_174 : decode cX6_holdAct 174 = .ok (.iaload, 1) := by decide +kernel
theorem dX6_holdAct_175 : decode cX6_holdAct 175 = .ok (.isub, 1) := by decide +kernel
theorem dX6_holdAct_176 : decode cX6_holdAct 176 = .ok (.iload 5, 2) := by decide +kernel
theorem dX6_holdAct_178 : decode cX6_holdAct 178 = .ok (.if_icmp .lt 21, 3) := by decide +kernel
theorem dX6_holdAct_181 : decode cX6_holdAct 181 = .ok (.aload_n 0, 1) := by decide +kernel
theorem dX6_holdAct_182 : decode cX6_holdAct 182 = .ok (.getfield 65, 3) := by decide +kernel
theorem dX6_holdAct_185 : decode cX6_holdAct 185 = .ok (.iload_n 3, 1) := by decide +kernel
theorem dX6_holdAct_186 : decode cX6_holdAct 186 = .ok (.dup2, 1) := by decide +kernel
theorem dX6_holdAct_187 : decode cX6_holdAct 187 = .ok (.iaload, 1) := by decide +kernel
theorem dX6_holdAct_188 : decode cX6_holdAct 188 = .ok (.iload 5, 2) := by decide +kernel
theorem dX6_holdAct_190 : decode cX6_holdAct 190 = .ok (.iadd, 1) := by decide +kernel
theorem dX6_holdAct_191 : decode cX6_holdAct 191 = .ok (.iastore, 1) := by decide +kernel
theorem dX6_holdAct_192 : decode cX6_holdAct 192 = .ok (.aload_n 0, 1) := by decide +kernel
theorem dX6_holdAct_193 : decode cX6_holdAct 193 = .ok (.getfield 56, 3) := by decide +kernel
theorem dX6_holdAct_196 : decode cX6_holdAct 196 = .ok (.iload_n 1, 1) := by decide +kernel
theorem dX6_holdAct_197 : decode cX6_holdAct 197 = .ok (.iconst 1, 1) := by decide +kernel
theorem dX6_holdAct_198 : decode cX6_holdAct 198 = .ok (.bastore, 1) := by decide +kernel
theorem dX6_holdAct_199 : decode cX6_holdAct 199 = .ok (.iload_n 2, 1) := by decide +kernel
theorem dX6_holdAct_200 : decode cX6_holdAct 200 = .ok (.ireturn, 1) := by decide +kernel
theorem dX6_holdAct_201 : decode cX6_holdAct 201 = .ok (.aload_n 0, 1) := by decide +kernel
theorem dX6_holdAct_202 : decode cX6_holdAct 202 = .ok (.getfield 56, 3) := by decide +kernel
theorem dX6_holdAct_205 : decode cX6_holdAct 205 = .ok (.iload 4, 2) := by decide +kernel
theorem dX6_holdAct_207 : decode cX6_holdAct 207 = .ok (.baload, 1) := by decide +kernel
theorem dX6_holdAct_208 : decode cX6_holdAct 208 = .ok (.ifCond .eq 44, 3) := by decide +kernel
theorem dX6_holdAct_211 : decode cX6_holdAct 211 = .ok (.aload_n 0, 1) := by decide +kernel
theorem dX6_holdAct_212 : decode cX6_holdAct 212 = .ok (.getfield 59, 3) := by decide +kernel
theorem dX6_holdAct_215 : decode cX6_holdAct 215 = .ok (.iload 4, 2) := by decide +kernel
theorem dX6_holdAct_217 : decode cX6_holdAct 217 = .ok (.baload, 1) := by decide +kernel
theorem dX6_holdAct_218 : decode cX6_holdAct 218 = .ok (.ifCond .ne 34, 3) := by decide +kernel
theorem dX6_holdAct_221 : decode cX6_holdAct 221 = .ok (.aload_n 0, 1) := by decide +kernel
theorem dX6_holdAct_222 : decode cX6_holdAct 222 = .ok (.getfield 65, 3) := by decide +kernel
theorem dX6_holdAct_225 : decode cX6_holdAct 225 = .ok (.iload_n 3, 1) := by decide +kernel
theorem dX6_holdAct_226 : decode cX6_holdAct 226 = .ok (.dup2, 1) := by decide +kernel
theorem dX6_holdAct_227 : decode cX6_holdAct 227 = .ok (.iaload, 1) := by decide +kernel
theorem dX6_holdAct_228 : decode cX6_holdAct 228 = .ok (.aload_n 0, 1) := by decide +kernel
theorem dX6_holdAct_229 : decode cX6_holdAct 229 = .ok (.getfield 44, 3) := by decide +kernel
theorem dX6_holdAct_232 : decode cX6_holdAct 232 = .ok (.iload 4, 2) := by decide +kernel
theorem dX6_holdAct_234 : decode cX6_holdAct 234 = .ok (.iaload, 1) := by decide +kernel
theorem dX6_holdAct_235 : decode cX6_holdAct 235 = .ok (.isub, 1) := by decide +kernel
theorem dX6_holdAct_236 : decode cX6_holdAct 236 = .ok (.iastore, 1) := by decide +kernel
theorem dX6_holdAct_237 : decode cX6_holdAct 237 = .ok (.aload_n 0, 1) := by decide +kernel
theorem dX6_holdAct_238 : decode cX6_holdAct 238 = .ok (.getfield 59, 3) := by decide +kernel
theorem dX6_holdAct_241 : decode cX6_holdAct 241 = .ok (.iload 4, 2) := by decide +kernel
theorem dX6_holdAct_243 : decode cX6_holdAct 243 = .ok (.iconst 1, 1) := by decide +kernel
theorem dX6_holdAct_244 : decode cX6_holdAct 244 = .ok (.bastore, 1) := by decide +kernel
theorem dX6_holdAct_245 : decode cX6_holdAct 245 = .ok (.aload_n 0, 1) := by decide +kernel
theorem dX6_holdAct_246 : decode cX6_holdAct 246 = .ok (.getfield 56, 3) := by decide +kernel
theorem dX6_holdAct_249 : decode cX6_holdAct 249 = .ok (.iload_n 1, 1) := by decide +kernel
theorem dX6_holdAct_250 : decode cX6_holdAct 250 = .ok (.iconst 1, 1) := by decide +kernel
theorem dX6_holdAct_251 : decode cX6_holdAct 251 = .ok (.bastore, 1) := by decide +kernel
theorem dX6_holdAct_252 : decode cX6_holdAct 252 = .ok (.iload_n 2, 1) := by decide +kernel
theorem dX6_holdAct_253 : decode cX6_holdAct 253 = .ok (.ireturn, 1) := by decide +kernel
theorem dX6_holdAct_254 : decode cX6_holdAct 254 = .ok (.aload_n 0, 1) := by decide +kernel
theorem dX6_holdAct_255 : decode cX6_holdAct 255 = .ok (.dup, 1) := by decide +kernel
theorem dX6_holdAct_256 : decode cX6_holdAct 256 = .ok (.getfield 170, 3) := by decide +kernel
theorem dX6_holdAct_259 : decode cX6_holdAct 259 = .ok (.iload 5, 2) := by decide +kernel
theorem dX6_holdAct_261 : decode cX6_holdAct 261 = .ok (.iadd, 1) := by decide +kernel
theorem dX6_holdAct_262 : decode cX6_holdAct 262 = .ok (.putfield 170, 3) := by decide +kernel
theorem dX6_holdAct_265 : decode cX6_holdAct 265 = .ok (.aload_n 0, 1) := by decide +kernel
theorem dX6_holdAct_266 : decode cX6_holdAct 266 = .ok (.getfield 56, 3) := by decide +kernel
theorem dX6_holdAct_269 : decode cX6_holdAct 269 = .ok (.iload_n 1, 1) := by decide +kernel
theorem dX6_holdAct_270 : decode cX6_holdAct 270 = .ok (.iconst 1, 1) := by decide +kernel
theorem dX6_holdAct_271 : decode cX6_holdAct 271 = .ok (.bastore, 1) := by decide +kernel
theorem dX6_holdAct_272 : decode cX6_holdAct 272 = .ok (.iload_n 2, 1) := by decide +kernel
theorem dX6_holdAct_273 : decode cX6_holdAct 273 = .ok (.ireturn, 1) := by decide +kernel
theorem dX6_holdAct_274 : decode cX6_holdAct 274 = .ok (.iload_n 2, 1) := by decide +kernel
theorem dX6_holdAct_275 : decode cX6_holdAct 275 = .ok (.ireturn, 1) := by decide +kernel
theorem dX6_isKnower_0 : decode cX6_isKnower 0 = .ok (.iload_n 0, 1) := by decide +kernel
theorem dX6_isKnower_1 : decode cX6_isKnower 1 = .ok (.i2l, 1) := by decide +kernel
theorem dX6_isKnower_2 : decode cX6_isKnower 2 = .ok (.ldc2_w 125, 3) := by decide +kernel
theorem dX6_isKnower_5 : decode cX6_isKnower 5 = .ok (.iload_n 1, 1) := by decide +kernel
theorem dX6_isKnower_6 : decode cX6_isKnower 6 = .ok (.iconst 1, 1) := by decide +kernel
theorem dX6_isKnower_7 : decode cX6_isKnower 7 = .ok (.isub, 1) := by decide +kernel
theorem dX6_isKnower_8 : decode cX6_isKnower 8 = .ok (.i2l, 1) := by decide +kernel
theorem dX6_isKnower_9 : decode cX6_isKnower 9 = .ok (.invokestatic 87, 3) := by decide +kernel
theorem dX6_isKnower_12 : decode cX6_isKnower 12 = .ok (.ireturn, 1) := by decide +kernel
theorem dX6_against_0 : decode cX6_against 0 = .ok (.iload_n 1, 1) := by decide +kernel
theorem dX6_against_1 : decode cX6_against 1 = .ok (.aload_n 0, 1) := by decide +kernel
theorem dX6_against_2 : decode cX6_against 2 = .ok (.getfield 83, 3) := by decide +kernel
theorem dX6_against_5 : decode cX6_against 5 = .ok (.invokestatic 183, 3) := by decide +kernel
theorem dX6_against_8 : decode cX6_against 8 = .ok (.ifCond .ne 7, 3) := by decide +kernel
theorem dX6_against_11 : decode cX6_against 11 = .ok (.iconst (-1), 1) := by decide +kernel
theorem dX6_against_12 : decode cX6_against 12 = .ok (.goto 22, 3) := by decide +kernel
theorem dX6_against_15 : decode cX6_against 15 = .ok (.iload_n 1, 1) := by decide +kernel
theorem dX6_against_16 : decode cX6_against 16 = .ok (.ifCond .lt 17, 3) := by decide +kernel
theorem dX6_against_19 : decode cX6_against 19 = .ok (.aload_n 0, 1) := by decide +kernel
theorem dX6_against_20 : decode cX6_against 20 = .ok (.getfield 13, 3) := by decide +kernel
theorem dX6_against_23 : decode cX6_against 23 = .ok (.iload_n 1, 1) := by decide +kernel
theorem dX6_against_24 : decode cX6_against 24 = .ok (.baload, 1) := by decide +kernel
theorem dX6_against_25 : decode cX6_against 25 = .ok (.ifCond .ne 8, 3) := by decide +kernel
theorem dX6_against_28 : decode cX6_against 28 = .ok (.bipush (-2), 2) := by decide +kernel
theorem dX6_against_30 : decode cX6_against 30 = .ok (.goto 4, 3) := by decide +kernel
theorem dX6_against_33 : decode cX6_against 33 = .ok (.iconst 0, 1) := by decide +kernel
theorem dX6_against_34 : decode cX6_against 34 = .ok (.ireturn, 1) := by decide +kernel
theorem dX6_parts_0 : decode cX6_parts 0 = .ok (.aload_n 0, 1) := by decide +kernel
theorem dX6_parts_1 : decode cX6_parts 1 = .ok (.iload_n 2, 1) := by decide +kernel
theorem dX6_parts_2 : decode cX6_parts 2 = .ok (.invokevirtual 129, 3) := by decide +kernel
theorem dX6_parts_5 : decode cX6_parts 5 = .ok (.ifCond .eq 11, 3) := by decide +kernel
theorem dX6_parts_8 : decode cX6_parts 8 = .ok (.aload_n 0, 1) := by decide +kernel
theorem dX6_parts_9 : decode cX6_parts 9 = .ok (.iload_n 3, 1) := by decide +kernel
theorem dX6_parts_10 : decode cX6_parts 10 = .ok (.invokevirtual 113, 3) := by decide +kernel
theorem dX6_parts_13 : decode cX6_parts 13 = .ok (.ifCond .ne 7, 3) := by decide +kernel
theorem dX6_parts_16 : decode cX6_parts 16 = .ok (.iconst (-1), 1) := by decide +kernel
theorem dX6_parts_17 : decode cX6_parts 17 = .ok (.goto 8, 3) := by decide +kernel
theorem dX6_parts_20 : decode cX6_parts 20 = .ok (.aload_n 0, 1) := by decide +kernel
theorem dX6_parts_21 : decode cX6_parts 21 = .ok (.iload_n 1, 1) := by decide +kernel
theorem dX6_parts_22 : decode cX6_parts 22 = .ok (.invokevirtual 186, 3) := by decide +kernel
theorem dX6_parts_25 : decode cX6_parts 25 = .ok (.istore 4, 2) := by decide +kernel
theorem dX6_parts_27 : decode cX6_parts 27 = .ok (.iload 4, 2) := by decide +kernel
theorem dX6_parts_29 : decode cX6_parts 29 = .ok (.ifCond .ge 6, 3) := by decide +kernel
theorem dX6_parts_32 : decode cX6_parts 32 = .ok (.iload 4, 2) := by decide +kernel
theorem dX6_parts_34 : decode cX6_parts 34 = .ok (.ireturn, 1) := by decide +kernel
theorem dX6_parts_35 : decode cX6_parts 35 = .ok (.aload_n 0, 1) := by decide +kernel
theorem dX6_parts_36 : decode cX6_parts 36 = .ok (.iload_n 1, 1) := by decide +kernel
theorem dX6_parts_37 : decode cX6_parts 37 = .ok (.iload_n 2, 1) := by decide +kernel
theorem dX6_parts_38 : decode cX6_parts 38 = .ok (.invokevirtual 153, 3) := by decide +kernel
theorem dX6_parts_41 : decode cX6_parts 41 = .ok (.aload_n 0, 1) := by decide +kernel
theorem dX6_parts_42 : decode cX6_parts 42 = .ok (.getfield 62, 3) := by decide +kernel
theorem dX6_parts_45 : decode cX6_parts 45 = .ok (.iload_n 3, 1) := by decide +kernel
theorem dX6_parts_46 : decode cX6_parts 46 = .ok (.iaload, 1) := by decide +kernel
theorem dX6_parts_47 : decode cX6_parts 47 = .ok (.ireturn, 1) := by decide +kernel
theorem dX6_bound_0 : decode cX6_bound 0 = .ok (.aload_n 0, 1) := by decide +kernel
theorem dX6_bound_1 : decode cX6_bound 1 = .ok (.iload_n 2, 1) := by decide +kernel
theorem dX6_bound_2 : decode cX6_bound 2 = .ok (.invokevirtual 129, 3) := by decide +kernel
theorem dX6_bound_5 : decode cX6_bound 5 = .ok (.ifCond .eq 11, 3) := by decide +kernel
theorem dX6_bound_8 : decode cX6_bound 8 = .ok (.aload_n 0, 1) := by decide +kernel
theorem dX6_bound_9 : decode cX6_bound 9 = .ok (.iload_n 3, 1) := by decide +kernel
theorem dX6_bound_10 : decode cX6_bound 10 = .ok (.invokevirtual 113, 3) := by decide +kernel
theorem dX6_bound_13 : decode cX6_bound 13 = .ok (.ifCond .ne 7, 3) := by decide +kernel
theorem dX6_bound_16 : decode cX6_bound 16 = .ok (.iconst (-1), 1) := by decide +kernel
theorem dX6_bound_17 : decode cX6_bound 17 = .ok (.goto 8, 3) := by decide +kernel
theorem dX6_bound_20 : decode cX6_bound 20 = .ok (.aload_n 0, 1) := by decide +kernel
theorem dX6_bound_21 : decode cX6_bound 21 = .ok (.iload_n 1, 1) := by decide +kernel
theorem dX6_bound_22 : decode cX6_bound 22 = .ok (.invokevirtual 186, 3) := by decide +kernel
theorem dX6_bound_25 : decode cX6_bound 25 = .ok (.istore 4, 2) := by decide +kernel
theorem dX6_bound_27 : decode cX6_bound 27 = .ok (.iload 4, 2) := by decide +kernel
theorem dX6_bound_29 : decode cX6_bound 29 = .ok (.ifCond .ge 6, 3) := by decide +kernel
theorem dX6_bound_32 : decode cX6_bound 32 = .ok (.iload 4, 2) := by decide +kernel
theorem dX6_bound_34 : decode cX6_bound 34 = .ok (.ireturn, 1) := by decide +kernel
theorem dX6_bound_35 : decode cX6_bound 35 = .ok (.aload_n 0, 1) := by decide +kernel
theorem dX6_bound_36 : decode cX6_bound 36 = .ok (.iload_n 1, 1) := by decide +kernel
theorem dX6_bound_37 : decode cX6_bound 37 = .ok (.iload_n 2, 1) := by decide +kernel
theorem dX6_bound_38 : decode cX6_bound 38 = .ok (.invokevirtual 153, 3) := by decide +kernel
theorem dX6_bound_41 : decode cX6_bound 41 = .ok (.aload_n 0, 1) := by decide +kernel
theorem dX6_bound_42 : decode cX6_bound 42 = .ok (.getfield 65, 3) := by decide +kernel
theorem dX6_bound_45 : decode cX6_bound 45 = .ok (.iload_n 3, 1) := by decide +kernel
theorem dX6_bound_46 : decode cX6_bound 46 = .ok (.iaload, 1) := by decide +kernel
theorem dX6_bound_47 : decode cX6_bound 47 = .ok (.ireturn, 1) := by decide +kernel
theorem dX6_holds_0 : decode cX6_holds 0 = .ok (.iload_n 2, 1) := by decide +kernel
theorem dX6_holds_1 : decode cX6_holds 1 = .ok (.i2l, 1) := by decide +kernel
theorem dX6_holds_2 : decode cX6_holds 2 = .ok (.lconst 0, 1) := by decide +kernel
theorem dX6_holds_3 : decode cX6_holds 3 = .ok (.aload_n 0, 1) := by decide +kernel
theorem dX6_holds_4 : decode cX6_holds 4 = .ok (.getfield 106, 3) := by decide +kernel
theorem dX6_holds_7 : decode cX6_holds 7 = .ok (.iconst 1, 1) := by decide +kernel
theorem dX6_holds_8 : decode cX6_holds 8 = .ok (.isub, 1) := by decide +kernel
theorem dX6_holds_9 : decode cX6_holds 9 = .ok (.i2l, 1) := by decide +kernel
theorem dX6_holds_10 : decode cX6_holds 10 = .ok (.invokestatic 87, 3) := by decide +kernel
theorem dX6_holds_13 : decode cX6_holds 13 = .ok (.ifCond .ne 7, 3) := by decide +kernel
theorem dX6_holds_16 : decode cX6_holds 16 = .ok (.iconst (-1), 1) := by decide +kernel
theorem dX6_holds_17 : decode cX6_holds 17 = .ok (.goto 8, 3) := by decide +kernel
theorem dX6_holds_20 : decode cX6_holds 20 = .ok (.aload_n 0, 1) := by decide +kernel
theorem dX6_holds_21 : decode cX6_holds 21 = .ok (.iload_n 1, 1) := by decide +kernel
theorem dX6_holds_22 : decode cX6_holds 22 = .ok (.invokevirtual 186, 3) := by decide +kernel
theorem dX6_holds_25 : decode cX6_holds 25 = .ok (.istore_n 3, 1) := by decide +kernel
theorem dX6_holds_26 : decode cX6_holds 26 = .ok (.iload_n 3, 1) := by decide +kernel
theorem dX6_holds_27 : decode cX6_holds 27 = .ok (.ifCond .ge 5, 3) := by decide +kernel
theorem dX6_holds_30 : decode cX6_holds 30 = .ok (.iload_n 3, 1) := by decide +kernel
theorem dX6_holds_31 : decode cX6_holds 31 = .ok (.ireturn, 1) := by decide +kernel
theorem dX6_holds_32 : decode cX6_holds 32 = .ok (.aload_n 0, 1) := by decide +kernel
theorem dX6_holds_33 : decode cX6_holds 33 = .ok (.iload_n 1, 1) := by decide +kernel
theorem dX6_holds_34 : decode cX6_holds 34 = .ok (.iload_n 2, 1) := by decide +kernel
theorem dX6_holds_35 : decode cX6_holds 35 = .ok (.invokevirtual 176, 3) := by decide +kernel
theorem dX6_holds_38 : decode cX6_holds 38 = .ok (.ifCond .ne 6, 3) := by decide +kernel
theorem dX6_holds_41 : decode cX6_holds 41 = .ok (.bipush (-4), 2) := by decide +kernel
theorem dX6_holds_43 : decode cX6_holds 43 = .ok (.ireturn, 1) := by decide +kernel
theorem dX6_holds_44 : decode cX6_holds 44 = .ok (.aload_n 0, 1) := by decide +kernel
theorem dX6_holds_45 : decode cX6_holds 45 = .ok (.iload_n 1, 1) := by decide +kernel
theorem dX6_holds_46 : decode cX6_holds 46 = .ok (.aload_n 0, 1) := by decide +kernel
theorem dX6_holds_47 : decode cX6_holds 47 = .ok (.getfield 35, 3) := by decide +kernel
theorem dX6_holds_50 : decode cX6_holds 50 = .ok (.iload_n 2, 1) := by decide +kernel
theorem dX6_holds_51 : decode cX6_holds 51 = .ok (.iaload, 1) := by decide +kernel
theorem dX6_holds_52 : decode cX6_holds 52 = .ok (.invokevirtual 153, 3) := by decide +kernel
theorem dX6_holds_55 : decode cX6_holds 55 = .ok (.aload_n 0, 1) := by decide +kernel
theorem dX6_holds_56 : decode cX6_holds 56 = .ok (.getfield 56, 3) := by decide +kernel
theorem dX6_holds_59 : decode cX6_holds 59 = .ok (.iload_n 2, 1) := by decide +kernel
theorem dX6_holds_60 : decode cX6_holds 60 = .ok (.baload, 1) := by decide +kernel
theorem dX6_holds_61 : decode cX6_holds 61 = .ok (.ifCond .eq 7, 3) := by decide +kernel
theorem dX6_holds_64 : decode cX6_holds 64 = .ok (.iconst 1, 1) := by decide +kernel
theorem dX6_holds_65 : decode cX6_holds 65 = .ok (.goto 4, 3) := by decide +kernel
theorem dX6_holds_68 : decode cX6_holds 68 = .ok (.iconst 0, 1) := by decide +kernel
theorem dX6_holds_69 : decode cX6_holds 69 = .ok (.ireturn, 1) := by decide +kernel
theorem dX6_owner_0 : decode cX6_owner 0 = .ok (.aload_n 0, 1) := by decide +kernel
theorem dX6_owner_1 : decode cX6_owner 1 = .ok (.iload_n 2, 1) := by decide +kernel
theorem dX6_owner_2 : decode cX6_owner 2 = .ok (.invokevirtual 129, 3) := by decide +kernel
theorem dX6_owner_5 : decode cX6_owner 5 = .ok (.ifCond .ne 7, 3) := by decide +kernel
theorem dX6_owner_8 : decode cX6_owner 8 = .ok (.iconst (-1), 1) := by decide +kernel
theorem dX6_owner_9 : decode cX6_owner 9 = .ok (.goto 8, 3) := by decide +kernel
theorem dX6_owner_12 : decode cX6_owner 12 = .ok (.aload_n 0, 1) := by decide +kernel
theorem dX6_owner_13 : decode cX6_owner 13 = .ok (.iload_n 1, 1) := by decide +kernel
theorem dX6_owner_14 : decode cX6_owner 14 = .ok (.invokevirtual 186, 3) := by decide +kernel
theorem dX6_owner_17 : decode cX6_owner 17 = .ok (.istore_n 3, 1) := by decide +kernel
theorem dX6_owner_18 : decode cX6_owner 18 = .ok (.iload_n 3, 1) := by decide +kernel
theorem dX6_owner_19 : decode cX6_owner 19 = .ok (.ifCond .ge 5, 3) := by decide +kernel
theorem dX6_owner_22 : decode cX6_owner 22 = .ok (.iload_n 3, 1) := by decide +kernel
theorem dX6_owner_23 : decode cX6_owner 23 = .ok (.ireturn, 1) := by decide +kernel
theorem dX6_owner_24 : decode cX6_owner 24 = .ok (.aload_n 0, 1) := by decide +kernel
theorem dX6_owner_25 : decode cX6_owner 25 = .ok (.iload_n 1, 1) := by decide +kernel
theorem dX6_owner_26 : decode cX6_owner 26 = .ok (.iload_n 2, 1) := by decide +kernel
theorem dX6_owner_27 : decode cX6_owner 27 = .ok (.invokevirtual 153, 3) := by decide +kernel
theorem dX6_owner_30 : decode cX6_owner 30 = .ok (.bipush (-4), 2) := by decide +kernel
theorem dX6_owner_32 : decode cX6_owner 32 = .ok (.istore 4, 2) := by decide +kernel
theorem dX6_owner_34 : decode cX6_owner 34 = .ok (.iconst 0, 1) := by decide +kernel
theorem dX6_owner_35 : decode cX6_owner 35 = .ok (.istore 5, 2) := by decide +kernel
theorem dX6_owner_37 : decode cX6_owner 37 = .ok (.iload 5, 2) := by decide +kernel
theorem dX6_owner_39 : decode cX6_owner 39 = .ok (.aload_n 0, 1) := by decide +kernel
theorem dX6_owner_40 : decode cX6_owner 40 = .ok (.getfield 83, 3) := by decide +kernel
theorem dX6_owner_43 : decode cX6_owner 43 = .ok (.if_icmp .ge 44, 3) := by decide +kernel
theorem dX6_owner_46 : decode cX6_owner 46 = .ok (.aload_n 0, 1) := by decide +kernel
theorem dX6_owner_47 : decode cX6_owner 47 = .ok (.getfield 62, 3) := by decide +kernel
theorem dX6_owner_50 : decode cX6_owner 50 = .ok (.iload 5, 2) := by decide +kernel
theorem dX6_owner_52 : decode cX6_owner 52 = .ok (.iaload, 1) := by decide +kernel
theorem dX6_owner_53 : decode cX6_owner 53 = .ok (.iload 4, 2) := by decide +kernel
theorem dX6_owner_55 : decode cX6_owner 55 = .ok (.ifCond .ge 7, 3) := by decide +kernel
theorem dX6_owner_58 : decode cX6_owner 58 = .ok (.iconst 0, 1) := by decide +kernel
theorem dX6_owner_59 : decode cX6_owner 59 = .ok (.goto 10, 3) := by decide +kernel
theorem dX6_owner_62 : decode cX6_owner 62 = .ok (.aload_n 0, 1) := by decide +kernel
theorem dX6_owner_63 : decode cX6_owner 63 = .ok (.getfield 62, 3) := by decide +kernel
theorem dX6_owner_66 : decode cX6_owner 66 = .ok (.iload 4, 2) := by decide +kernel
theorem dX6_owner_68 : decode cX6_owner 68 = .ok (.iaload, 1) := by decide +kernel
theorem dX6_owner_69 : decode cX6_owner 69 = .ok (.if_icmp .le 8, 3) := by decide +kernel
theorem dX6_owner_72 : decode cX6_owner 72 = .ok (.iload 5, 2) := by decide +kernel
theorem dX6_owner_74 : decode cX6_owner 74 = .ok (.goto 5, 3) := by decide +kernel
theorem dX6_owner_77 : decode cX6_owner 77 = .ok (.iload 4, 2) := by decide +kernel
theorem dX6_owner_79 : decode cX6_owner 79 = .ok (.istore 4, 2) := by decide +kernel
theorem dX6_owner_81 : decode cX6_owner 81 = .ok (.iinc 5 1, 3) := by decide +kernel
theorem dX6_owner_84 : decode cX6_owner 84 = .ok (.goto (-47), 3) := by decide +kernel
theorem dX6_owner_87 : decode cX6_owner 87 = .ok (.iload 4, 2) := by decide +kernel
theorem dX6_owner_89 : decode cX6_owner 89 = .ok (.ireturn, 1) := by decide +kernel
theorem dX6_worthOf_0 : decode cX6_worthOf 0 = .ok (.aload_n 0, 1) := by decide +kernel
theorem dX6_worthOf_1 : decode cX6_worthOf 1 = .ok (.getfield 23, 3) := by decide +kernel
theorem dX6_worthOf_4 : decode cX6_worthOf 4 = .ok (.iload_n 1, 1) := by decide +kernel
theorem dX6_worthOf_5 : decode cX6_worthOf 5 = .ok (.iaload, 1) := by decide +kernel
theorem dX6_worthOf_6 : decode cX6_worthOf 6 = .ok (.aload_n 0, 1) := by decide +kernel
theorem dX6_worthOf_7 : decode cX6_worthOf 7 = .ok (.getfield 23, 3) := by decide +kernel
theorem dX6_worthOf_10 : decode cX6_worthOf 10 = .ok (.iload_n 1, 1) := by decide +kernel
theorem dX6_worthOf_11 : decode cX6_worthOf 11 = .ok (.iaload, 1) := by decide +kernel
theorem dX6_worthOf_12 : decode cX6_worthOf 12 = .ok (.imul, 1) := by decide +kernel
theorem dX6_worthOf_13 : decode cX6_worthOf 13 = .ok (.bipush 10, 2) := by decide +kernel
theorem dX6_worthOf_15 : decode cX6_worthOf 15 = .ok (.aload_n 0, 1) := by decide +kernel
theorem dX6_worthOf_16 : decode cX6_worthOf 16 = .ok (.getfield 170, 3) := by decide +kernel
theorem dX6_worthOf_19 : decode cX6_worthOf 19 = .ok (.iadd, 1) := by decide +kernel
theorem dX6_worthOf_20 : decode cX6_worthOf 20 = .ok (.iconst 5, 1) := by decide +kernel
theorem dX6_worthOf_21 : decode cX6_worthOf 21 = .ok (.aload_n 0, 1) := by decide +kernel
theorem dX6_worthOf_22 : decode cX6_worthOf 22 = .ok (.getfield 173, 3) := by decide +kernel
theorem dX6_worthOf_25 : decode cX6_worthOf 25 = .ok (.imul, 1) := by decide +kernel
theorem dX6_worthOf_26 : decode cX6_worthOf 26 = .ok (.iadd, 1) := by decide +kernel
theorem dX6_worthOf_27 : decode cX6_worthOf 27 = .ok (.imul, 1) := by decide +kernel
theorem dX6_worthOf_28 : decode cX6_worthOf 28 = .ok (.bipush 10, 2) := by decide +kernel
theorem dX6_worthOf_30 : decode cX6_worthOf 30 = .ok (.idiv, 1) := by decide +kernel
theorem dX6_worthOf_31 : decode cX6_worthOf 31 = .ok (.ireturn, 1) := by decide +kernel
theorem dX6_worth_0 : decode cX6_worth 0 = .ok (.aload_n 0, 1) := by decide +kernel
theorem dX6_worth_1 : decode cX6_worth 1 = .ok (.iload_n 2, 1) := by decide +kernel
theorem dX6_worth_2 : decode cX6_worth 2 = .ok (.invokevirtual 129, 3) := by decide +kernel
theorem dX6_worth_5 : decode cX6_worth 5 = .ok (.ifCond .ne 7, 3) := by decide +kernel
theorem dX6_worth_8 : decode cX6_worth 8 = .ok (.iconst (-1), 1) := by decide +kernel
theorem dX6_worth_9 : decode cX6_worth 9 = .ok (.goto 8, 3) := by decide +kernel
theorem dX6_worth_12 : decode cX6_worth 12 = .ok (.aload_n 0, 1) := by decide +kernel
theorem dX6_worth_13 : decode cX6_worth 13 = .ok (.iload_n 1, 1) := by decide +kernel
theorem dX6_worth_14 : decode cX6_worth 14 = .ok (.invokevirtual 186, 3) := by decide +kernel
theorem dX6_worth_17 : decode cX6_worth 17 = .ok (.istore_n 3, 1) := by decide +kernel
theorem dX6_worth_18 : decode cX6_worth 18 = .ok (.iload_n 3, 1) := by decide +kernel
theorem dX6_worth_19 : decode cX6_worth 19 = .ok (.ifCond .ge 5, 3) := by decide +kernel
theorem dX6_worth_22 : decode cX6_worth 22 = .ok (.iload_n 3, 1) := by decide +kernel
theorem dX6_worth_23 : decode cX6_worth 23 = .ok (.ireturn, 1) := by decide +kernel
theorem dX6_worth_24 : decode cX6_worth 24 = .ok (.aload_n 0, 1) := by decide +kernel
theorem dX6_worth_25 : decode cX6_worth 25 = .ok (.iload_n 1, 1) := by decide +kernel
theorem dX6_worth_26 : decode cX6_worth 26 = .ok (.iload_n 2, 1) := by decide +kernel
theorem dX6_worth_27 : decode cX6_worth 27 = .ok (.invokevirtual 153, 3) := by decide +kernel
theorem dX6_worth_30 : decode cX6_worth 30 = .ok (.aload_n 0, 1) := by decide +kernel
theorem dX6_worth_31 : decode cX6_worth 31 = .ok (.iload_n 2, 1) := by decide +kernel
theorem dX6_worth_32 : decode cX6_worth 32 = .ok (.invokevirtual 189, 3) := by decide +kernel
theorem dX6_worth_35 : decode cX6_worth 35 = .ok (.ireturn, 1) := by decide +kernel
theorem dX6_wealth_0 : decode cX6_wealth 0 = .ok (.aload_n 0, 1) := by decide +kernel
theorem dX6_wealth_1 : decode cX6_wealth 1 = .ok (.iload_n 2, 1) := by decide +kernel
theorem dX6_wealth_2 : decode cX6_wealth 2 = .ok (.invokevirtual 113, 3) := by decide +kernel
theorem dX6_wealth_5 : decode cX6_wealth 5 = .ok (.ifCond .ne 7, 3) := by decide +kernel
theorem dX6_wealth_8 : decode cX6_wealth 8 = .ok (.iconst (-1), 1) := by decide +kernel
theorem dX6_wealth_9 : decode cX6_wealth 9 = .ok (.goto 8, 3) := by decide +kernel
theorem dX6_wealth_12 : decode cX6_wealth 12 = .ok (.aload_n 0, 1) := by decide +kernel
theorem dX6_wealth_13 : decode cX6_wealth 13 = .ok (.iload_n 1, 1) := by decide +kernel
theorem dX6_wealth_14 : decode cX6_wealth 14 = .ok (.invokevirtual 186, 3) := by decide +kernel
theorem dX6_wealth_17 : decode cX6_wealth 17 = .ok (.istore_n 3, 1) := by decide +kernel
theorem dX6_wealth_18 : decode cX6_wealth 18 = .ok (.iload_n 3, 1) := by decide +kernel
theorem dX6_wealth_19 : decode cX6_wealth 19 = .ok (.ifCond .ge 5, 3) := by decide +kernel
theorem dX6_wealth_22 : decode cX6_wealth 22 = .ok (.iload_n 3, 1) := by decide +kernel
theorem dX6_wealth_23 : decode cX6_wealth 23 = .ok (.ireturn, 1) := by decide +kernel
theorem dX6_wealth_24 : decode cX6_wealth 24 = .ok (.iconst 0, 1) := by decide +kernel
theorem dX6_wealth_25 : decode cX6_wealth 25 = .ok (.istore 4, 2) := by decide +kernel
theorem dX6_wealth_27 : decode cX6_wealth 27 = .ok (.iconst 0, 1) := by decide +kernel
theorem dX6_wealth_28 : decode cX6_wealth 28 = .ok (.istore 5, 2) := by decide +kernel
theorem dX6_wealth_30 : decode cX6_wealth 30 = .ok (.iload 5, 2) := by decide +kernel
theorem dX6_wealth_32 : decode cX6_wealth 32 = .ok (.aload_n 0, 1) := by decide +kernel
theorem dX6_wealth_33 : decode cX6_wealth 33 = .ok (.getfield 120, 3) := by decide +kernel
theorem dX6_wealth_36 : decode cX6_wealth 36 = .ok (.if_icmp .ge 37, 3) := by decide +kernel
theorem dX6_wealth_39 : decode cX6_wealth 39 = .ok (.aload_n 0, 1) := by decide +kernel
theorem dX6_wealth_40 : decode cX6_wealth 40 = .ok (.iload_n 1, 1) := by decide +kernel
theorem dX6_wealth_41 : decode cX6_wealth 41 = .ok (.iload 5, 2) := by decide +kernel
theorem dX6_wealth_43 : decode cX6_wealth 43 = .ok (.invokevirtual 153, 3) := by decide +kernel
theorem dX6_wealth_46 : decode cX6_wealth 46 = .ok (.iload 4, 2) := by decide +kernel
theorem dX6_wealth_48 : decode cX6_wealth 48 = .ok (.aload_n 0, 1) := by decide +kernel
theorem dX6_wealth_49 : decode cX6_wealth 49 = .ok (.iload 5, 2) := by decide +kernel
theorem dX6_wealth_51 : decode cX6_wealth 51 = .ok (.invokevirtual 189, 3) := by decide +kernel
theorem dX6_wealth_54 : decode cX6_wealth 54 = .ok (.aload_n 0, 1) := by decide +kernel
theorem dX6_wealth_55 : decode cX6_wealth 55 = .ok (.getfield 62, 3) := by decide +kernel
theorem dX6_wealth_58 : decode cX6_wealth 58 = .ok (.iload_n 2, 1) := by decide +kernel
theorem dX6_wealth_59 : decode cX6_wealth 59 = .ok (.iaload, 1) := by decide +kernel
theorem dX6_wealth_60 : decode cX6_wealth 60 = .ok (.imul, 1) := by decide +kernel
theorem dX6_wealth_61 : decode cX6_wealth 61 = .ok (.bipush 12, 2) := by decide +kernel
theorem dX6_wealth_63 : decode cX6_wealth 63 = .ok (.idiv, 1) := by decide +kernel
theorem dX6_wealth_64 : decode cX6_wealth 64 = .ok (.iadd, 1) := by decide +kernel
theorem dX6_wealth_65 : decode cX6_wealth 65 = .ok (.istore 4, 2) := by decide +kernel
theorem dX6_wealth_67 : decode cX6_wealth 67 = .ok (.iinc 5 1, 3) := by decide +kernel
theorem dX6_wealth_70 : decode cX6_wealth 70 = .ok (.goto (-40), 3) := by decide +kernel
theorem dX6_wealth_73 : decode cX6_wealth 73 = .ok (.iload 4, 2) := by decide +kernel
theorem dX6_wealth_75 : decode cX6_wealth 75 = .ok (.ireturn, 1) := by decide +kernel
theorem dX6_findWeight_0 : decode cX6_findWeight 0 = .ok (.aload_n 0, 1) := by decide +kernel
theorem dX6_findWeight_1 : decode cX6_findWeight 1 = .ok (.iconst 0, 1) := by decide +kernel
theorem dX6_findWeight_2 : decode cX6_findWeight 2 = .ok (.putfield 192, 3) := by decide +kernel
theorem dX6_findWeight_5 : decode cX6_findWeight 5 = .ok (.aload_n 0, 1) := by decide +kernel
theorem dX6_findWeight_6 : decode cX6_findWeight 6 = .ok (.bipush 61, 2) := by decide +kernel
theorem dX6_findWeight_8 : decode cX6_findWeight 8 = .ok (.putfield 195, 3) := by decide +kernel
theorem dX6_findWeight_11 : decode cX6_findWeight 11 = .ok (.iconst 0, 1) := by decide +kernel
theorem dX6_findWeight_12 : decode cX6_findWeight 12 = .ok (.istore 4, 2) := by decide +kernel
theorem dX6_findWeight_14 : decode cX6_findWeight 14 = .ok (.iload 4, 2) := by decide +kernel
theorem dX6_findWeight_16 : decode cX6_findWeight 16 = .ok (.aload_n 0, 1) := by decide +kernel
theorem dX6_findWeight_17 : decode cX6_findWeight 17 = .ok (.getfield 83, 3) := by decide +kernel
theorem dX6_findWeight_20 : decode cX6_findWeight 20 = .ok (.if_icmp .ge 58, 3) := by decide +kernel
theorem dX6_findWeight_23 : decode cX6_findWeight 23 = .ok (.aload_n 0, 1) := by decide +kernel
theorem dX6_findWeight_24 : decode cX6_findWeight 24 = .ok (.iload 4, 2) := by decide +kernel
theorem dX6_findWeight_26 : decode cX6_findWeight 26 = .ok (.invokevirtual 91, 3) := by decide +kernel
theorem dX6_findWeight_29 : decode cX6_findWeight 29 = .ok (.ifCond .eq 43, 3) := by decide +kernel
theorem dX6_findWeight_32 : decode cX6_findWeight 32 = .ok (.aload_n 0, 1) := by decide +kernel
theorem dX6_findWeight_33 : decode cX6_findWeight 33 = .ok (.iload 4, 2) := by decide +kernel
theorem dX6_findWeight_35 : decode cX6_findWeight 35 = .ok (.iload_n 1, 1) := by decide +kernel
theorem dX6_findWeight_36 : decode cX6_findWeight 36 = .ok (.invokevirtual 153, 3) := by decide +kernel
theorem dX6_findWeight_39 : decode cX6_findWeight 39 = .ok (.aload_n 0, 1) := by decide +kernel
theorem dX6_findWeight_40 : decode cX6_findWeight 40 = .ok (.getfield 62, 3) := by decide +kernel
theorem dX6_findWeight_43 : decode cX6_findWeight 43 = .ok (.iload_n 2, 1) := by decide +kernel
theorem dX6_findWeight_44 : decode cX6_findWeight 44 = .ok (.iaload, 1) := by decide +kernel
theorem dX6_findWeight_45 : decode cX6_findWeight 45 = .ok (.aload_n 0, 1) := by decide +kernel
theorem dX6_findWeight_46 : decode cX6_findWeight 46 = .ok (.getfield 62, 3) := by decide +kernel
theorem dX6_findWeight_49 : decode cX6_findWeight 49 = .ok (.iload_n 3, 1) := by decide +kernel
theorem dX6_findWeight_50 : decode cX6_findWeight 50 = .ok (.iaload, 1) := by decide +kernel
theorem dX6_findWeight_51 : decode cX6_findWeight 51 = .ok (.if_icmp .le 21, 3) := by decide +kernel
theorem dX6_findWeight_54 : decode cX6_findWeight 54 = .ok (.aload_n 0, 1) := by decide +kernel
theorem dX6_findWeight_55 : decode cX6_findWeight 55 = .ok (.dup, 1) := by decide +kernel
theorem dX6_findWeight_56 : decode cX6_findWeight 56 = .ok (.getfield 192, 3) := by decide +kernel
theorem dX6_findWeight_59 : decode cX6_findWeight 59 = .ok (.iconst 1, 1) := by decide +kernel
theorem dX6_findWeight_60 : decode cX6_findWeight 60 = .ok (.iadd, 1) := by decide +kernel
theorem dX6_findWeight_61 : decode cX6_findWeight 61 = .ok (.putfield 192, 3) := by decide +kernel
theorem dX6_findWeight_64 : decode cX6_findWeight 64 = .ok (.aload_n 0, 1) := by decide +kernel
theorem dX6_findWeight_65 : decode cX6_findWeight 65 = .ok (.iload 4, 2) := by decide +kernel
theorem dX6_findWeight_67 : decode cX6_findWeight 67 = .ok (.iload_n 1, 1) := by decide +kernel
theorem dX6_findWeight_68 : decode cX6_findWeight 68 = .ok (.iload_n 2, 1) := by decide +kernel
theorem dX6_findWeight_69 : decode cX6_findWeight 69 = .ok (.invokevirtual 198, 3) := by decide +kernel
theorem dX6_findWeight_72 : decode cX6_findWeight 72 = .ok (.iinc 4 1, 3) := by decide +kernel
theorem dX6_findWeight_75 : decode cX6_findWeight 75 = .ok (.goto (-61), 3) := by decide +kernel
theorem dX6_findWeight_78 : decode cX6_findWeight 78 = .ok (.return_, 1) := by decide +kernel
theorem dX6_findNearest_0 : decode cX6_findNearest 0 = .ok (.iconst 0, 1) := by decide +kernel
theorem dX6_findNearest_1 : decode cX6_findNearest 1 = .ok (.istore 4, 2) := by decide +kernel
theorem dX6_findNearest_3 : decode cX6_findNearest 3 = .ok (.iload 4, 2) := by decide +kernel
theorem dX6_findNearest_5 : decode cX6_findNearest 5 = .ok (.aload_n 0, 1) := by decide +kernel
theorem dX6_findNearest_6 : decode cX6_findNearest 6 = .ok (.getfield 106, 3) := by decide +kernel
theorem dX6_findNearest_9 : decode cX6_findNearest 9 = .ok (.if_icmp .ge 108, 3) := by decide +kernel
theorem dX6_findNearest_12 : decode cX6_findNearest 12 = .ok (.aload_n 0, 1) := by decide +kernel
theorem dX6_findNearest_13 : decode cX6_findNearest 13 = .ok (.getfield 35, 3) := by decide +kernel
theorem dX6_findNearest_16 : decode cX6_findNearest 16 = .ok (.iload 4, 2) := by decide +kernel
theorem dX6_findNearest_18 : decode cX6_findNearest 18 = .ok (.iaload, 1) := by decide +kernel
theorem dX6_findNearest_19 : decode cX6_findNearest 19 = .ok (.iload_n 2, 1) := by decide +kernel
theorem dX6_findNearest_20 : decode cX6_findNearest 20 = .ok (.if_icmp .ne 42, 3) := by decide +kernel
theorem dX6_findNearest_23 : decode cX6_findNearest 23 = .ok (.aload_n 0, 1) := by decide +kernel
theorem dX6_findNearest_24 : decode cX6_findNearest 24 = .ok (.getfield 38, 3) := by decide +kernel
theorem dX6_findNearest_27 : decode cX6_findNearest 27 = .ok (.iload 4, 2) := by decide +kernel
theorem dX6_findNearest_29 : decode cX6_findNearest 29 = .ok (.iaload, 1) := by decide +kernel
theorem dX6_findNearest_30 : decode cX6_findNearest 30 = .ok (.iload_n 3, 1) := by decide +kernel
theorem dX6_findNearest_31 : decode cX6_findNearest 31 = .ok (.if_icmp .eq 27, 3) := by decide +kernel
theorem dX6_findNearest_34 : decode cX6_findNearest 34 = .ok (.aload_n 0, 1) := by decide +kernel
theorem dX6_findNearest_35 : decode cX6_findNearest 35 = .ok (.getfield 32, 3) := by decide +kernel
theorem dX6_findNearest_38 : decode cX6_findNearest 38 = .ok (.iload 4, 2) := by decide +kernel
theorem dX6_findNearest_40 : decode cX6_findNearest 40 = .ok (.iaload, 1) := by decide +kernel
theorem dX6_findNearest_41 : decode cX6_findNearest 41 = .ok (.invokestatic 142, 3) := by decide +kernel
theorem dX6_findNearest_44 : decode cX6_findNearest 44 = .ok (.ifCond .eq 18, 3) := by decide +kernel
theorem dX6_findNearest_47 : decode cX6_findNearest 47 = .ok (.aload_n 0, 1) := by decide +kernel
theorem dX6_findNearest_48 : decode cX6_findNearest 48 = .ok (.getfield 41, 3) := by decide +kernel
theorem dX6_findNearest_51 : decode cX6_findNearest 51 = .ok (.iload 4, 2) := by decide +kernel
theorem dX6_findNearest_53 : decode cX6_findNearest 53 = .ok (.iaload, 1) := by decide +kernel
theorem dX6_findNearest_54 : decode cX6_findNearest 54 = .ok (.iload_n 3, 1) := by decide +kernel
theorem dX6_findNearest_55 : decode cX6_findNearest 55 = .ok (.if_icmp .ne 7, 3) := by decide +kernel
theorem dX6_findNearest_58 : decode cX6_findNearest 58 = .ok (.iconst 1, 1) := by decide +kernel
theorem dX6_findNearest_59 : decode cX6_findNearest 59 = .ok (.goto 4, 3) := by decide +kernel
theorem dX6_findNearest_62 : decode cX6_findNearest 62 = .ok (.iconst 0, 1) := by decide +kernel
theorem dX6_findNearest_63 : decode cX6_findNearest 63 = .ok (.istore 5, 2) := by decide +kernel
theorem dX6_findNearest_65 : decode cX6_findNearest 65 = .ok (.aload_n 0, 1) := by decide +kernel
theorem dX6_findNearest_66 : decode cX6_findNearest 66 = .ok (.getfield 20, 3) := by decide +kernel
theorem dX6_findNearest_69 : decode cX6_findNearest 69 = .ok (.bipush 60, 2) := by decide +kernel
theorem dX6_findNearest_71 : decode cX6_findNearest 71 = .ok (.iload_n 1, 1) := by decide +kernel
theorem dX6_findNearest_72 : decode cX6_findNearest 72 = .ok (.imul, 1) := by decide +kernel
theorem dX6_findNearest_73 : decode cX6_findNearest 73 = .ok (.iload 4, 2) := by decide +kernel
theorem dX6_findNearest_75 : decode cX6_findNearest 75 = .ok (.iadd, 1) := by decide +kernel
theorem dX6_findNearest_76 : decode cX6_findNearest 76 = .ok (.iaload, 1) := by decide +kernel
theorem dX6_findNearest_77 : decode cX6_findNearest 77 = .ok (.istore 6, 2) := by decide +kernel
theorem dX6_findNearest_79 : decode cX6_findNearest 79 = .ok (.aload_n 0, 1) := by decide +kernel
theorem dX6_findNearest_80 : decode cX6_findNearest 80 = .ok (.iload 5, 2) := by decide +kernel
theorem dX6_findNearest_82 : decode cX6_findNearest 82 = .ok (.ifCond .eq 22, 3) := by decide +kernel
theorem dX6_findNearest_85 : decode cX6_findNearest 85 = .ok (.iload 6, 2) := by decide +kernel
theorem dX6_findNearest_87 : decode cX6_findNearest 87 = .ok (.ifCond .le 17, 3) := by decide +kernel
theorem dX6_findNearest_90 : decode cX6_findNearest 90 = .ok (.iload 6, 2) := by decide +kernel
theorem dX6_findNearest_92 : decode cX6_findNearest 92 = .ok (.aload_n 0, 1) := by decide +kernel
theorem dX6_findNearest_93 : decode cX6_findNearest 93 = .ok (.getfield 195, 3) := by decide +kernel
theorem dX6_findNearest_96 : decode cX6_findNearest 96 = .ok (.if_icmp .ge 8, 3) := by decide +kernel
theorem dX6_findNearest_99 : decode cX6_findNearest 99 = .ok (.iload 6, 2) := by decide +kernel
theorem dX6_findNearest_101 : decode cX6_findNearest 101 = .ok (.goto 7, 3) := by decide +kernel
theorem dX6_findNearest_104 : decode cX6_findNearest 104 = .ok (.aload_n 0, 1) := by decide +kernel
theorem dX6_findNearest_105 : decode cX6_findNearest 105 = .ok (.getfield 195, 3) := by decide +kernel
theorem dX6_findNearest_108 : decode cX6_findNearest 108 = .ok (.putfield 195, 3) := by decide +kernel
theorem dX6_findNearest_111 : decode cX6_findNearest 111 = .ok (.iinc 4 1, 3) := by decide +kernel
theorem dX6_findNearest_114 : decode cX6_findNearest 114 = .ok (.goto (-111), 3) := by decide +kernel
theorem dX6_findNearest_117 : decode cX6_findNearest 117 = .ok (.return_, 1) := by decide +kernel
theorem dX6_weight_0 : decode cX6_weight 0 = .ok (.aload_n 0, 1) := by decide +kernel
theorem dX6_weight_1 : decode cX6_weight 1 = .ok (.iload_n 1, 1) := by decide +kernel
theorem dX6_weight_2 : decode cX6_weight 2 = .ok (.invokevirtual 129, 3) := by decide +kernel
theorem dX6_weight_5 : decode cX6_weight 5 = .ok (.ifCond .eq 24, 3) := by decide +kernel
theorem dX6_weight_8 : decode cX6_weight 8 = .ok (.aload_n 0, 1) := by decide +kernel
theorem dX6_weight_9 : decode cX6_weight 9 = .ok (.iload_n 2, 1) := by decide +kernel
theorem dX6_weight_10 : decode cX6_weight 10 = .ok (.invokevirtual 113, 3) := by decide +kernel
theorem dX6_weight_13 : decode cX6_weight 13 = .ok (.ifCond .eq 16, 3) := by decide +kernel
theorem dX6_weight_16 : decode cX6_weight 16 = .ok (.aload_n 0, 1) := by decide +kernel
theorem dX6_weight_17 : decode cX6_weight 17 = .ok (.iload_n 3, 1) := by decide +kernel
theorem dX6_weight_18 : decode cX6_weight 18 = .ok (.invokevirtual 113, 3) := by decide +kernel
theorem dX6_weight_21 : decode cX6_weight 21 = .ok (.ifCond .eq 8, 3) := by decide +kernel
theorem dX6_weight_24 : decode cX6_weight 24 = .ok (.iload_n 2, 1) := by decide +kernel
theorem dX6_weight_25 : decode cX6_weight 25 = .ok (.iload_n 3, 1) := by decide +kernel
theorem dX6_weight_26 : decode cX6_weight 26 = .ok (.if_icmp .ne 5, 3) := by decide +kernel
theorem dX6_weight_29 : decode cX6_weight 29 = .ok (.iconst (-1), 1) := by decide +kernel
theorem dX6_weight_30 : decode cX6_weight 30 = .ok (.ireturn, 1) := by decide +kernel
theorem dX6_weight_31 : decode cX6_weight 31 = .ok (.aload_n 0, 1) := by decide +kernel
theorem dX6_weight_32 : decode cX6_weight 32 = .ok (.iload_n 1, 1) := by decide +kernel
theorem dX6_weight_33 : decode cX6_weight 33 = .ok (.iload_n 2, 1) := by decide +kernel
theorem dX6_weight_34 : decode cX6_weight 34 = .ok (.iload_n 3, 1) := by decide +kernel
theorem dX6_weight_35 : decode cX6_weight 35 = .ok (.invokevirtual 202, 3) := by decide +kernel
theorem dX6_weight_38 : decode cX6_weight 38 = .ok (.aload_n 0, 1) := by decide +kernel
theorem dX6_weight_39 : decode cX6_weight 39 = .ok (.getfield 192, 3) := by decide +kernel
theorem dX6_weight_42 : decode cX6_weight 42 = .ok (.ireturn, 1) := by decide +kernel
theorem dX6_quarrel_0 : decode cX6_quarrel 0 = .ok (.aload_n 0, 1) := by decide +kernel
theorem dX6_quarrel_1 : decode cX6_quarrel 1 = .ok (.iload_n 1, 1) := by decide +kernel
theorem dX6_quarrel_2 : decode cX6_quarrel 2 = .ok (.invokevirtual 129, 3) := by decide +kernel
theorem dX6_quarrel_5 : decode cX6_quarrel 5 = .ok (.ifCond .eq 24, 3) := by decide +kernel
theorem dX6_quarrel_8 : decode cX6_quarrel 8 = .ok (.aload_n 0, 1) := by decide +kernel
theorem dX6_quarrel_9 : decode cX6_quarrel 9 = .ok (.iload_n 2, 1) := by decide +kernel
theorem dX6_quarrel_10 : decode cX6_quarrel 10 = .ok (.invokevirtual 113, 3) := by decide +kernel
theorem dX6_quarrel_13 : decode cX6_quarrel 13 = .ok (.ifCond .eq 16, 3) := by decide +kernel
theorem dX6_quarrel_16 : decode cX6_quarrel 16 = .ok (.aload_n 0, 1) := by decide +kernel
theorem dX6_quarrel_17 : decode cX6_quarrel 17 = .ok (.iload_n 3, 1) := by decide +kernel
theorem dX6_quarrel_18 : decode cX6_quarrel 18 = .ok (.invokevirtual 113, 3) := by decide +kernel
theorem dX6_quarrel_21 : decode cX6_quarrel 21 = .ok (.ifCond .eq 8, 3) := by decide +kernel
theorem dX6_quarrel_24 : decode cX6_quarrel 24 = .ok (.iload_n 2, 1) := by decide +kernel
theorem dX6_quarrel_25 : decode cX6_quarrel 25 = .ok (.iload_n 3, 1) := by decide +kernel
theorem dX6_quarrel_26 : decode cX6_quarrel 26 = .ok (.if_icmp .ne 5, 3) := by decide +kernel
theorem dX6_quarrel_29 : decode cX6_quarrel 29 = .ok (.iconst (-1), 1) := by decide +kernel
theorem dX6_quarrel_30 : decode cX6_quarrel 30 = .ok (.ireturn, 1) := by decide +kernel
theorem dX6_quarrel_31 : decode cX6_quarrel 31 = .ok (.aload_n 0, 1) := by decide +kernel
theorem dX6_quarrel_32 : decode cX6_quarrel 32 = .ok (.iload_n 1, 1) := by decide +kernel
theorem dX6_quarrel_33 : decode cX6_quarrel 33 = .ok (.iload_n 2, 1) := by decide +kernel
theorem dX6_quarrel_34 : decode cX6_quarrel 34 = .ok (.iload_n 3, 1) := by decide +kernel
theorem dX6_quarrel_35 : decode cX6_quarrel 35 = .ok (.invokevirtual 202, 3) := by decide +kernel
theorem dX6_quarrel_38 : decode cX6_quarrel 38 = .ok (.aload_n 0, 1) := by decide +kernel
theorem dX6_quarrel_39 : decode cX6_quarrel 39 = .ok (.getfield 192, 3) := by decide +kernel
theorem dX6_quarrel_42 : decode cX6_quarrel 42 = .ok (.istore 4, 2) := by decide +kernel
theorem dX6_quarrel_44 : decode cX6_quarrel 44 = .ok (.aload_n 0, 1) := by decide +kernel
theorem dX6_quarrel_45 : decode cX6_quarrel 45 = .ok (.getfield 195, 3) := by decide +kernel
theorem dX6_quarrel_48 : decode cX6_quarrel 48 = .ok (.istore 5, 2) := by decide +kernel
theorem dX6_quarrel_50 : decode cX6_quarrel 50 = .ok (.aload_n 0, 1) := by decide +kernel
theorem dX6_quarrel_51 : decode cX6_quarrel 51 = .ok (.iload_n 1, 1) := by decide +kernel
theorem dX6_quarrel_52 : decode cX6_quarrel 52 = .ok (.iload_n 3, 1) := by decide +kernel
theorem dX6_quarrel_53 : decode cX6_quarrel 53 = .ok (.iload_n 2, 1) := by decide +kernel
theorem dX6_quarrel_54 : decode cX6_quarrel 54 = .ok (.invokevirtual 202, 3) := by decide +kernel
theorem dX6_quarrel_57 : decode cX6_quarrel 57 = .ok (.iload 4, 2) := by decide +kernel
theorem dX6_quarrel_59 : decode cX6_quarrel 59 = .ok (.aload_n 0, 1) := by decide +kernel
theorem dX6_quarrel_60 : decode cX6_quarrel 60 = .ok (.getfield 192, 3) := by decide +kernel
theorem dX6_quarrel_63 : decode cX6_quarrel 63 = .ok (.if_icmp .eq 18, 3) := by decide +kernel
theorem dX6_quarrel_66 : decode cX6_quarrel 66 = .ok (.iload 4, 2) := by decide +kernel
theorem dX6_quarrel_68 : decode cX6_quarrel 68 = .ok (.aload_n 0, 1) := by decide +kernel
theorem dX6_quarrel_69 : decode cX6_quarrel 69 = .ok (.getfield 192, 3) := by decide +kernel
theorem dX6_quarrel_72 : decode cX6_quarrel 72 = .ok (.if_icmp .le 7, 3) := by decide +kernel
theorem dX6_quarrel_75 : decode cX6_quarrel 75 = .ok (.iload_n 2, 1) := by decide +kernel
theorem dX6_quarrel_76 : decode cX6_quarrel 76 = .ok (.goto 4, 3) := by decide +kernel
theorem dX6_quarrel_79 : decode cX6_quarrel 79 = .ok (.iload_n 3, 1) := by decide +kernel
theorem dX6_quarrel_80 : decode cX6_quarrel 80 = .ok (.ireturn, 1) := by decide +kernel
theorem dX6_quarrel_81 : decode cX6_quarrel 81 = .ok (.iload 5, 2) := by decide +kernel
theorem dX6_quarrel_83 : decode cX6_quarrel 83 = .ok (.aload_n 0, 1) := by decide +kernel
theorem dX6_quarrel_84 : decode cX6_quarrel 84 = .ok (.getfield 195, 3) := by decide +kernel
theorem dX6_quarrel_87 : decode cX6_quarrel 87 = .ok (.if_icmp .ne 8, 3) := by decide +kernel
theorem dX6_quarrel_90 : decode cX6_quarrel 90 = .ok (.bipush (-4), 2) := by decide +kernel
theorem dX6_quarrel_92 : decode cX6_quarrel 92 = .ok (.goto 17, 3) := by decide +kernel
theorem dX6_quarrel_95 : decode cX6_quarrel 95 = .ok (.iload 5, 2) := by decide +kernel
theorem dX6_quarrel_97 : decode cX6_quarrel 97 = .ok (.aload_n 0, 1) := by decide +kernel
theorem dX6_quarrel_98 : decode cX6_quarrel 98 = .ok (.getfield 195, 3) := by decide +kernel
theorem dX6_quarrel_101 : decode cX6_quarrel 101 = .ok (.if_icmp .ge 7, 3) := by decide +kernel
theorem dX6_quarrel_104 : decode cX6_quarrel 104 = .ok (.iload_n 2, 1) := by decide +kernel
theorem dX6_quarrel_105 : decode cX6_quarrel 105 = .ok (.goto 4, 3) := by decide +kernel
theorem dX6_quarrel_108 : decode cX6_quarrel 108 = .ok (.iload_n 3, 1) := by decide +kernel
theorem dX6_quarrel_109 : decode cX6_quarrel 109 = .ok (.ireturn, 1) := by decide +kernel
theorem dX6_split_0 : decode cX6_split 0 = .ok (.iconst 0, 1) := by decide +kernel
theorem dX6_split_1 : decode cX6_split 1 = .ok (.istore_n 1, 1) := by decide +kernel
theorem dX6_split_2 : decode cX6_split 2 = .ok (.iconst 0, 1) := by decide +kernel
theorem dX6_split_3 : decode cX6_split 3 = .ok (.istore_n 2, 1) := by decide +kernel
theorem dX6_split_4 : decode cX6_split 4 = .ok (.iload_n 2, 1) := by decide +kernel
theorem dX6_split_5 : decode cX6_split 5 = .ok (.aload_n 0, 1) := by decide +kernel
theorem dX6_split_6 : decode cX6_split 6 = .ok (.getfield 120, 3) := by decide +kernel
theorem dX6_split_9 : decode cX6_split 9 = .ok (.if_icmp .ge 122, 3) := by decide +kernel
theorem dX6_split_12 : decode cX6_split 12 = .ok (.iconst 0, 1) := by decide +kernel
theorem dX6_split_13 : decode cX6_split 13 = .ok (.istore_n 3, 1) := by decide +kernel
theorem dX6_split_14 : decode cX6_split 14 = .ok (.iconst 0, 1) := by decide +kernel
theorem dX6_split_15 : decode cX6_split 15 = .ok (.istore 4, 2) := by decide +kernel
theorem dX6_split_17 : decode cX6_split 17 = .ok (.iload 4, 2) := by decide +kernel
theorem dX6_split_19 : decode cX6_split 19 = .ok (.aload_n 0, 1) := by decide +kernel
theorem dX6_split_20 : decode cX6_split 20 = .ok (.getfield 83, 3) := by decide +kernel
theorem dX6_split_23 : decode cX6_split 23 = .ok (.if_icmp .ge 102, 3) := by decide +kernel
theorem dX6_split_26 : decode cX6_split 26 = .ok (.aload_n 0, 1) := by decide +kernel
theorem dX6_split_27 : decode cX6_split 27 = .ok (.iload 4, 2) := by decide +kernel
theorem dX6_split_29 : decode cX6_split 29 = .ok (.invokevirtual 91, 3) := by decide +kernel
theorem dX6_split_32 : decode cX6_split 32 = .ok (.ifCond .eq 87, 3) := by decide +kernel
theorem dX6_split_35 : decode cX6_split 35 = .ok (.aload_n 0, 1) := by decide +kernel
theorem dX6_split_36 : decode cX6_split 36 = .ok (.iload 4, 2) := by decide +kernel
theorem dX6_split_38 : decode cX6_split 38 = .ok (.iload_n 2, 1) := by decide +kernel
theorem dX6_split_39 : decode cX6_split 39 = .ok (.invokevirtual 153, 3) := by decide +kernel
theorem dX6_split_42 : decode cX6_split 42 = .ok (.iconst 0, 1) := by decide +kernel
theorem dX6_split_43 : decode cX6_split 43 = .ok (.istore 5, 2) := by decide +kernel
theorem dX6_split_45 : decode cX6_split 45 = .ok (.iload 5, 2) := by decide +kernel
theorem dX6_split_47 : decode cX6_split 47 = .ok (.bipush 16, 2) := by decide +kernel
theorem dX6_split_49 : decode cX6_split 49 = .ok (.if_icmp .ge 68, 3) := by decide +kernel
theorem dX6_split_52 : decode cX6_split 52 = .ok (.iload_n 1, 1) := by decide +kernel
theorem dX6_split_53 : decode cX6_split 53 = .ok (.iload_n 3, 1) := by decide +kernel
theorem dX6_split_54 : decode cX6_split 54 = .ok (.ifCond .eq 26, 3) := by decide +kernel
theorem dX6_split_57 : decode cX6_split 57 = .ok (.aload_n 0, 1) := by decide +kernel
theorem dX6_split_58 : decode cX6_split 58 = .ok (.getfield 62, 3) := by decide +kernel
theorem dX6_split_61 : decode cX6_split 61 = .ok (.iload 5, 2) := by decide +kernel
theorem dX6_split_63 : decode cX6_split 63 = .ok (.iaload, 1) := by decide +kernel
theorem dX6_split_64 : decode cX6_split 64 = .ok (.aload_n 0, 1) := by decide +kernel
theorem dX6_split_65 : decode cX6_split 65 = .ok (.getfield 68, 3) := by decide +kernel
theorem dX6_split_68 : decode cX6_split 68 = .ok (.iload 5, 2) := by decide +kernel
theorem dX6_split_70 : decode cX6_split 70 = .ok (.iaload, 1) := by decide +kernel
theorem dX6_split_71 : decode cX6_split 71 = .ok (.if_icmp .eq 9, 3) := by decide +kernel
theorem dX6_split_74 : decode cX6_split 74 = .ok (.iconst 1, 1) := by decide +kernel
theorem dX6_split_75 : decode cX6_split 75 = .ok (.iload_n 2, 1) := by decide +kernel
theorem dX6_split_76 : decode cX6_split 76 = .ok (.ishl, 1) := by decide +kernel
theorem dX6_split_77 : decode cX6_split 77 = .ok (.goto 4, 3) := by decide +kernel
theorem dX6_split_80 : decode cX6_split 80 = .ok (.iconst 0, 1) := by decide +kernel
theorem dX6_split_81 : decode cX6_split 81 = .ok (.ior, 1) := by decide +kernel
theorem dX6_split_82 : decode cX6_split 82 = .ok (.istore_n 1, 1) := by decide +kernel
theorem dX6_split_83 : decode cX6_split 83 = .ok (.aload_n 0, 1) := by decide +kernel
theorem dX6_split_84 : decode cX6_split 84 = .ok (.getfield 68, 3) := by decide +kernel
theorem dX6_split_87 : decode cX6_split 87 = .ok (.iload 5, 2) := by decide +kernel
theorem dX6_split_89 : decode cX6_split 89 = .ok (.iload_n 3, 1) := by decide +kernel
theorem dX6_split_90 : decode cX6_split 90 = .ok (.ifCond .eq 13, 3) := by decide +kernel
theorem dX6_split_93 : decode cX6_split 93 = .ok (.aload_n 0, 1) := by decide +kernel
theorem dX6_split_94 : decode cX6_split 94 = .ok (.getfield 68, 3) := by decide +kernel
theorem dX6_split_97 : decode cX6_split 97 = .ok (.iload 5, 2) := by decide +kernel
theorem dX6_split_99 : decode cX6_split 99 = .ok (.iaload, 1) := by decide +kernel
theorem dX6_split_100 : decode cX6_split 100 = .ok (.goto 10, 3) := by decide +kernel
theorem dX6_split_103 : decode cX6_split 103 = .ok (.aload_n 0, 1) := by decide +kernel
theorem dX6_split_104 : decode cX6_split 104 = .ok (.getfield 62, 3) := by decide +kernel
theorem dX6_split_107 : decode cX6_split 107 = .ok (.iload 5, 2) := by decide +kernel
theorem dX6_split_109 : decode cX6_split 109 = .ok (.iaload, 1) := by decide +kernel
theorem dX6_split_110 : decode cX6_split 110 = .ok (.iastore, 1) := by decide +kernel
theorem dX6_split_111 : decode cX6_split 111 = .ok (.iinc 5 1, 3) := by decide +kernel
theorem dX6_split_114 : decode cX6_split 114 = .ok (.goto (-69), 3) := by decide +kernel
theorem dX6_split_117 : decode cX6_split 117 = .ok (.iconst 1, 1) := by decide +kernel
theorem dX6_split_118 : decode cX6_split 118 = .ok (.istore_n 3, 1) := by decide +kernel
theorem dX6_split_119 : decode cX6_split 119 = .ok (.iinc 4 1, 3) := by decide +kernel
theorem dX6_split_122 : decode cX6_split 122 = .ok (.goto (-105), 3) := by decide +kernel
theorem dX6_split_125 : decode cX6_split 125 = .ok (.iinc 2 1, 3) := by decide +kernel
theorem dX6_split_128 : decode cX6_split 128 = .ok (.goto (-124), 3) := by decide +kernel
theorem dX6_split_131 : decode cX6_split 131 = .ok (.iload_n 1, 1) := by decide +kernel
theorem dX6_split_132 : decode cX6_split 132 = .ok (.ireturn, 1) := by decide +kernel
theorem dX6_ban_0 : decode cX6_ban 0 = .ok (.iload_n 1, 1) := by decide +kernel
theorem dX6_ban_1 : decode cX6_ban 1 = .ok (.i2l, 1) := by decide +kernel
theorem dX6_ban_2 : decode cX6_ban 2 = .ok (.lconst 0, 1) := by decide +kernel
theorem dX6_ban_3 : decode cX6_ban 3 = .ok (.ldc2_w 205, 3) := by decide +kernel
theorem dX6_ban_6 : decode cX6_ban 6 = .ok (.invokestatic 87, 3) := by decide +kernel
theorem dX6_ban_9 : decode cX6_ban 9 = .ok (.ifCond .ne 5, 3) := by decide +kernel
theorem dX6_ban_12 : decode cX6_ban 12 = .ok (.iconst (-1), 1) := by decide +kernel
theorem dX6_ban_13 : decode cX6_ban 13 = .ok (.ireturn, 1) := by decide +kernel
theorem dX6_ban_14 : decode cX6_ban 14 = .ok (.aload_n 0, 1) := by decide +kernel
theorem dX6_ban_15 : decode cX6_ban 15 = .ok (.getfield 160, 3) := by decide +kernel
theorem dX6_ban_18 : decode cX6_ban 18 = .ok (.istore_n 2, 1) := by decide +kernel
theorem dX6_ban_19 : decode cX6_ban 19 = .ok (.aload_n 0, 1) := by decide +kernel
theorem dX6_ban_20 : decode cX6_ban 20 = .ok (.iload_n 1, 1) := by decide +kernel
theorem dX6_ban_21 : decode cX6_ban 21 = .ok (.putfield 160, 3) := by decide +kernel
theorem dX6_ban_24 : decode cX6_ban 24 = .ok (.iload_n 2, 1) := by decide +kernel
theorem dX6_ban_25 : decode cX6_ban 25 = .ok (.ireturn, 1) := by decide +kernel
theorem dX6_feast_0 : decode cX6_feast 0 = .ok (.iload_n 1, 1) := by decide +kernel
theorem dX6_feast_1 : decode cX6_feast 1 = .ok (.iconst 1, 1) := by decide +kernel
theorem dX6_feast_2 : decode cX6_feast 2 = .ok (.if_icmp .lt 30, 3) := by decide +kernel
theorem dX6_feast_5 : decode cX6_feast 5 = .ok (.iload_n 1, 1) := by decide +kernel
theorem dX6_feast_6 : decode cX6_feast 6 = .ok (.aload_n 0, 1) := by decide +kernel
theorem dX6_feast_7 : decode cX6_feast 7 = .ok (.invokevirtual 139, 3) := by decide +kernel
theorem dX6_feast_10 : decode cX6_feast 10 = .ok (.iconst (-1), 1) := by decide +kernel
theorem dX6_feast_11 : decode cX6_feast 11 = .ok (.ixor, 1) := by decide +kernel
theorem dX6_feast_12 : decode cX6_feast 12 = .ok (.iand, 1) := by decide +kernel
theorem dX6_feast_13 : decode cX6_feast 13 = .ok (.ifCond .ne 19, 3) := by decide +kernel
theorem dX6_feast_16 : decode cX6_feast 16 = .ok (.aload_n 0, 1) := by decide +kernel
theorem dX6_feast_17 : decode cX6_feast 17 = .ok (.iload_n 2, 1) := by decide +kernel
theorem dX6_feast_18 : decode cX6_feast 18 = .ok (.invokevirtual 113, 3) := by decide +kernel
theorem dX6_feast_21 : decode cX6_feast 21 = .ok (.ifCond .eq 11, 3) := by decide +kernel
theorem dX6_feast_24 : decode cX6_feast 24 = .ok (.aload_n 0, 1) := by decide +kernel
theorem dX6_feast_25 : decode cX6_feast 25 = .ok (.iload_n 3, 1) := by decide +kernel
theorem dX6_feast_26 : decode cX6_feast 26 = .ok (.invokevirtual 129, 3) := by decide +kernel
theorem dX6_feast_29 : decode cX6_feast 29 = .ok (.ifCond .ne 5, 3) := by decide +kernel
theorem dX6_feast_32 : decode cX6_feast 32 = .ok (.iconst (-1), 1) := by decide +kernel
theorem dX6_feast_33 : decode cX6_feast 33 = .ok (.ireturn, 1) := by decide +kernel
theorem dX6_feast_34 : decode cX6_feast 34 = .ok (.iload_n 1, 1) := by decide +kernel
theorem dX6_feast_35 : decode cX6_feast 35 = .ok (.iload_n 2, 1) := by decide +kernel
theorem dX6_feast_36 : decode cX6_feast 36 = .ok (.ishr, 1) := by decide +kernel
theorem dX6_feast_37 : decode cX6_feast 37 = .ok (.iconst 1, 1) := by decide +kernel
theorem dX6_feast_38 : decode cX6_feast 38 = .ok (.iand, 1) := by decide +kernel
theorem dX6_feast_39 : decode cX6_feast 39 = .ok (.ifCond .ne 6, 3) := by decide +kernel
theorem dX6_feast_42 : decode cX6_feast 42 = .ok (.bipush (-2), 2) := by decide +kernel
theorem dX6_feast_44 : decode cX6_feast 44 = .ok (.ireturn, 1) := by decide +kernel
theorem dX6_feast_45 : decode cX6_feast 45 = .ok (.iconst 0, 1) := by decide +kernel
theorem dX6_feast_46 : decode cX6_feast 46 = .ok (.istore 4, 2) := by decide +kernel
theorem dX6_feast_48 : decode cX6_feast 48 = .ok (.iconst 0, 1) := by decide +kernel
theorem dX6_feast_49 : decode cX6_feast 49 = .ok (.istore 5, 2) := by decide +kernel
theorem dX6_feast_51 : decode cX6_feast 51 = .ok (.iload 5, 2) := by decide +kernel
theorem dX6_feast_53 : decode cX6_feast 53 = .ok (.aload_n 0, 1) := by decide +kernel
theorem dX6_feast_54 : decode cX6_feast 54 = .ok (.getfield 106, 3) := by decide +kernel
theorem dX6_feast_57 : decode cX6_feast 57 = .ok (.if_icmp .ge 95, 3) := by decide +kernel
theorem dX6_feast_60 : decode cX6_feast 60 = .ok (.aload_n 0, 1) := by decide +kernel
theorem dX6_feast_61 : decode cX6_feast 61 = .ok (.getfield 35, 3) := by decide +kernel
theorem dX6_feast_64 : decode cX6_feast 64 = .ok (.iload 5, 2) := by decide +kernel
theorem dX6_feast_66 : decode cX6_feast 66 = .ok (.iaload, 1) := by decide +kernel
theorem dX6_feast_67 : decode cX6_feast 67 = .ok (.iload_n 3, 1) := by decide +kernel
theorem dX6_feast_68 : decode cX6_feast 68 = .ok (.if_icmp .ne 78, 3) := by decide +kernel
theorem dX6_feast_71 : decode cX6_feast 71 = .ok (.aload_n 0, 1) := by decide +kernel
theorem dX6_feast_72 : decode cX6_feast 72 = .ok (.iload_n 2, 1) := by decide +kernel
theorem dX6_feast_73 : decode cX6_feast 73 = .ok (.iload 5, 2) := by decide +kernel
theorem dX6_feast_75 : decode cX6_feast 75 = .ok (.invokevirtual 102, 3) := by decide +kernel
theorem dX6_feast_78 : decode cX6_feast 78 = .ok (.ifCond .eq 68, 3) := by decide +kernel
theorem dX6_feast_81 : decode cX6_feast 81 = .ok (.aload_n 0, 1) := by decide +kernel
theorem dX6_feast_82 : decode cX6_feast 82 = .ok (.iload 5, 2) := by decide +kernel
theorem dX6_feast_84 : decode cX6_feast 84 = .ok (.invokevirtual 163, 3) := by decide +kernel
theorem dX6_feast_87 : decode cX6_feast 87 = .ok (.ifCond .ne 59, 3) := by decide +kernel
theorem dX6_feast_90 : decode cX6_feast 90 = .ok (.iconst 0, 1) := by decide +kernel
theorem dX6_feast_91 : decode cX6_feast 91 = .ok (.istore 6, 2) := by decide +kernel
theorem dX6_feast_93 : decode cX6_feast 93 = .ok (.iload 6, 2) := by decide +kernel
theorem dX6_feast_95 : decode cX6_feast 95 = .ok (.aload_n 0, 1) := by decide +kernel
theorem dX6_feast_96 : decode cX6_feast 96 = .ok (.getfield 83, 3) := by decide +kernel
theorem dX6_feast_99 : decode cX6_feast 99 = .ok (.if_icmp .ge 47, 3) := by decide +kernel
theorem dX6_feast_102 : decode cX6_feast 102 = .ok (.iload 4, 2) := by decide +kernel
theorem dX6_feast_104 : decode cX6_feast 104 = .ok (.iload 6, 2) := by decide +kernel
theorem dX6_feast_106 : decode cX6_feast 106 = .ok (.iload_n 2, 1) := by decide +kernel
theorem dX6_feast_107 : decode cX6_feast 107 = .ok (.if_icmp .eq 29, 3) := by decide +kernel
theorem dX6_feast_110 : decode cX6_feast 110 = .ok (.iload_n 1, 1) := by decide +kernel
theorem dX6_feast_111 : decode cX6_feast 111 = .ok (.iload 6, 2) := by decide +kernel
theorem dX6_feast_113 : decode cX6_feast 113 = .ok (.ishr, 1) := by decide +kernel
theorem dX6_feast_114 : decode cX6_feast 114 = .ok (.iconst 1, 1) := by decide +kernel
theorem dX6_feast_115 : decode cX6_feast 115 = .ok (.iand, 1) := by decide +kernel
theorem dX6_feast_116 : decode cX6_feast 116 = .ok (.iconst 1, 1) := by decide +kernel
theorem dX6_feast_117 : decode cX6_feast 117 = .ok (.if_icmp .ne 19, 3) := by decide +kernel
theorem dX6_feast_120 : decode cX6_feast 120 = .ok (.aload_n 0, 1) := by decide +kernel
theorem dX6_feast_121 : decode cX6_feast 121 = .ok (.iload_n 2, 1) := by decide +kernel
theorem dX6_feast_122 : decode cX6_feast 122 = .ok (.iload 6, 2) := by decide +kernel
theorem dX6_feast_124 : decode cX6_feast 124 = .ok (.iload 5, 2) := by decide +kernel
theorem dX6_feast_126 : decode cX6_feast 126 = .ok (.invokevirtual 166, 3) := by decide +kernel
theorem dX6_feast_129 : decode cX6_feast 129 = .ok (.ifCond .eq 7, 3) := by decide +kernel
theorem dX6_feast_132 : decode cX6_feast 132 = .ok (.iconst 1, 1) := by decide +kernel
theorem dX6_feast_133 : decode cX6_feast 133 = .ok (.goto 4, 3) := by decide +kernel
theorem dX6_feast_136 : decode cX6_feast 136 = .ok (.iconst 0, 1) := by decide +kernel
theorem dX6_feast_137 : decode cX6_feast 137 = .ok (.iadd, 1) := by decide +kernel
theorem dX6_feast_138 : decode cX6_feast 138 = .ok (.istore 4, 2) := by decide +kernel
theorem dX6_feast_140 : decode cX6_feast 140 = .ok (.iinc 6 1, 3) := by decide +kernel
theorem dX6_feast_143 : decode cX6_feast 143 = .ok (.goto (-50), 3) := by decide +kernel
theorem dX6_feast_146 : decode cX6_feast 146 = .ok (.iinc 5 1, 3) := by decide +kernel
theorem dX6_feast_149 : decode cX6_feast 149 = .ok (.goto (-98), 3) := by decide +kernel
theorem dX6_feast_152 : decode cX6_feast 152 = .ok (.iload 4, 2) := by decide +kernel
theorem dX6_feast_154 : decode cX6_feast 154 = .ok (.ireturn, 1) := by decide +kernel
theorem dX6_kept_0 : decode cX6_kept 0 = .ok (.aload_n 0, 1) := by decide +kernel
theorem dX6_kept_1 : decode cX6_kept 1 = .ok (.iload_n 1, 1) := by decide +kernel
theorem dX6_kept_2 : decode cX6_kept 2 = .ok (.invokevirtual 129, 3) := by decide +kernel
theorem dX6_kept_5 : decode cX6_kept 5 = .ok (.ifCond .ne 5, 3) := by decide +kernel
theorem dX6_kept_8 : decode cX6_kept 8 = .ok (.iconst (-1), 1) := by decide +kernel
theorem dX6_kept_9 : decode cX6_kept 9 = .ok (.ireturn, 1) := by decide +kernel
theorem dX6_kept_10 : decode cX6_kept 10 = .ok (.iconst 0, 1) := by decide +kernel
theorem dX6_kept_11 : decode cX6_kept 11 = .ok (.istore_n 2, 1) := by decide +kernel
theorem dX6_kept_12 : decode cX6_kept 12 = .ok (.iconst 0, 1) := by decide +kernel
theorem dX6_kept_13 : decode cX6_kept 13 = .ok (.istore_n 3, 1) := by decide +kernel
theorem dX6_kept_14 : decode cX6_kept 14 = .ok (.iload_n 3, 1) := by decide +kernel
theorem dX6_kept_15 : decode cX6_kept 15 = .ok (.aload_n 0, 1) := by decide +kernel
theorem dX6_kept_16 : decode cX6_kept 16 = .ok (.getfield 83, 3) := by decide +kernel
theorem dX6_kept_19 : decode cX6_kept 19 = .ok (.if_icmp .ge 90, 3) := by decide +kernel
theorem dX6_kept_22 : decode cX6_kept 22 = .ok (.aload_n 0, 1) := by decide +kernel
theorem dX6_kept_23 : decode cX6_kept 23 = .ok (.getfield 13, 3) := by decide +kernel
theorem dX6_kept_26 : decode cX6_kept 26 = .ok (.iload_n 3, 1) := by decide +kernel
theorem dX6_kept_27 : decode cX6_kept 27 = .ok (.baload, 1) := by decide +kernel
theorem dX6_kept_28 : decode cX6_kept 28 = .ok (.istore 4, 2) := by decide +kernel
theorem dX6_kept_30 : decode cX6_kept 30 = .ok (.iconst 0, 1) := by decide +kernel
theorem dX6_kept_31 : decode cX6_kept 31 = .ok (.istore 5, 2) := by decide +kernel
theorem dX6_kept_33 : decode cX6_kept 33 = .ok (.iload 5, 2) := by decide +kernel
theorem dX6_kept_35 : decode cX6_kept 35 = .ok (.aload_n 0, 1) := by decide +kernel
theorem dX6_kept_36 : decode cX6_kept 36 = .ok (.getfield 106, 3) := by decide +kernel
theorem dX6_kept_39 : decode cX6_kept 39 = .ok (.if_icmp .ge 51, 3) := by decide +kernel
theorem dX6_kept_42 : decode cX6_kept 42 = .ok (.iload 4, 2) := by decide +kernel
theorem dX6_kept_44 : decode cX6_kept 44 = .ok (.ifCond .eq 37, 3) := by decide +kernel
theorem dX6_kept_47 : decode cX6_kept 47 = .ok (.aload_n 0, 1) := by decide +kernel
theorem dX6_kept_48 : decode cX6_kept 48 = .ok (.getfield 35, 3) := by decide +kernel
theorem dX6_kept_51 : decode cX6_kept 51 = .ok (.iload 5, 2) := by decide +kernel
theorem dX6_kept_53 : decode cX6_kept 53 = .ok (.iaload, 1) := by decide +kernel
theorem dX6_kept_54 : decode cX6_kept 54 = .ok (.iload_n 1, 1) := by decide +kernel
theorem dX6_kept_55 : decode cX6_kept 55 = .ok (.if_icmp .ne 22, 3) := by decide +kernel
theorem dX6_kept_58 : decode cX6_kept 58 = .ok (.aload_n 0, 1) := by decide +kernel
theorem dX6_kept_59 : decode cX6_kept 59 = .ok (.iload 5, 2) := by decide +kernel
theorem dX6_kept_61 : decode cX6_kept 61 = .ok (.invokevirtual 109, 3) := by decide +kernel
theorem dX6_kept_64 : decode cX6_kept 64 = .ok (.ifCond .eq 13, 3) := by decide +kernel
theorem dX6_kept_67 : decode cX6_kept 67 = .ok (.aload_n 0, 1) := by decide +kernel
theorem dX6_kept_68 : decode cX6_kept 68 = .ok (.iload_n 3, 1) := by decide +kernel
theorem dX6_kept_69 : decode cX6_kept 69 = .ok (.iload 5, 2) := by decide +kernel
theorem dX6_kept_71 : decode cX6_kept 71 = .ok (.invokevirtual 102, 3) := by decide +kernel
theorem dX6_kept_74 : decode cX6_kept 74 = .ok (.ifCond .eq 7, 3) := by decide +kernel
theorem dX6_kept_77 : decode cX6_kept 77 = .ok (.iconst 1, 1) := by decide +kernel
theorem dX6_kept_78 : decode cX6_kept 78 = .ok (.goto 4, 3) := by decide +kernel
theorem dX6_kept_81 : decode cX6_kept 81 = .ok (.iconst 0, 1) := by decide +kernel
theorem dX6_kept_82 : decode cX6_kept 82 = .ok (.istore 4, 2) := by decide +kernel
theorem dX6_kept_84 : decode cX6_kept 84 = .ok (.iinc 5 1, 3) := by decide +kernel
theorem dX6_kept_87 : decode cX6_kept 87 = .ok (.goto (-54), 3) := by decide +kernel
theorem dX6_kept_90 : decode cX6_kept 90 = .ok (.iload_n 2, 1) := by decide +kernel
theorem dX6_kept_91 : decode cX6_kept 91 = .ok (.iload 4, 2) := by decide +kernel
theorem dX6_kept_93 : decode cX6_kept 93 = .ok (.ifCond .eq 7, 3) := by decide +kernel
theorem dX6_kept_96 : decode cX6_kept 96 = .ok (.iconst 1, 1) := by decide +kernel
theorem dX6_kept_97 : decode cX6_kept 97 = .ok (.goto 4, 3) := by decide +kernel
theorem dX6_kept_100 : decode cX6_kept 100 = .ok (.iconst 0, 1) := by decide +kernel
theorem dX6_kept_101 : decode cX6_kept 101 = .ok (.iadd, 1) := by decide +kernel
theorem dX6_kept_102 : decode cX6_kept 102 = .ok (.istore_n 2, 1) := by decide +kernel
theorem dX6_kept_103 : decode cX6_kept 103 = .ok (.iinc 3 1, 3) := by decide +kernel
theorem dX6_kept_106 : decode cX6_kept 106 = .ok (.goto (-92), 3) := by decide +kernel
theorem dX6_kept_109 : decode cX6_kept 109 = .ok (.iload_n 2, 1) := by decide +kernel
theorem dX6_kept_110 : decode cX6_kept 110 = .ok (.ireturn, 1) := by decide +kernel
theorem dX6_isTold_0 : decode cX6_isTold 0 = .ok (.iconst 0, 1) := by decide +kernel
theorem dX6_isTold_1 : decode cX6_isTold 1 = .ok (.istore_n 3, 1) := by decide +kernel
theorem dX6_isTold_2 : decode cX6_isTold 2 = .ok (.iconst 0, 1) := by decide +kernel
theorem dX6_isTold_3 : decode cX6_isTold 3 = .ok (.istore 4, 2) := by decide +kernel
theorem dX6_isTold_5 : decode cX6_isTold 5 = .ok (.iload 4, 2) := by decide +kernel
theorem dX6_isTold_7 : decode cX6_isTold 7 = .ok (.aload_n 0, 1) := by decide +kernel
theorem dX6_isTold_8 : decode cX6_isTold 8 = .ok (.getfield 83, 3) := by decide +kernel
theorem dX6_isTold_11 : decode cX6_isTold 11 = .ok (.if_icmp .ge 27, 3) := by decide +kernel
theorem dX6_isTold_14 : decode cX6_isTold 14 = .ok (.iload_n 3, 1) := by decide +kernel
theorem dX6_isTold_15 : decode cX6_isTold 15 = .ok (.aload_n 0, 1) := by decide +kernel
theorem dX6_isTold_16 : decode cX6_isTold 16 = .ok (.getfield 13, 3) := by decide +kernel
theorem dX6_isTold_19 : decode cX6_isTold 19 = .ok (.iload 4, 2) := by decide +kernel
theorem dX6_isTold_21 : decode cX6_isTold 21 = .ok (.baload, 1) := by decide +kernel
theorem dX6_isTold_22 : decode cX6_isTold 22 = .ok (.ifCond .eq 7, 3) := by decide +kernel
theorem dX6_isTold_25 : decode cX6_isTold 25 = .ok (.iconst 1, 1) := by decide +kernel
theorem dX6_isTold_26 : decode cX6_isTold 26 = .ok (.goto 4, 3) := by decide +kernel
theorem dX6_isTold_29 : decode cX6_isTold 29 = .ok (.iconst 0, 1) := by decide +kernel
theorem dX6_isTold_30 : decode cX6_isTold 30 = .ok (.iadd, 1) := by decide +kernel
theorem dX6_isTold_31 : decode cX6_isTold 31 = .ok (.istore_n 3, 1) := by decide +kernel
theorem dX6_isTold_32 : decode cX6_isTold 32 = .ok (.iinc 4 1, 3) := by decide +kernel
theorem dX6_isTold_35 : decode cX6_isTold 35 = .ok (.goto (-30), 3) := by decide +kernel
theorem dX6_isTold_38 : decode cX6_isTold 38 = .ok (.iconst 0, 1) := by decide +kernel
theorem dX6_isTold_39 : decode cX6_isTold 39 = .ok (.istore 4, 2) := by decide +kernel
theorem dX6_isTold_41 : decode cX6_isTold 41 = .ok (.iload 4, 2) := by decide +kernel
theorem dX6_isTold_43 : decode cX6_isTold 43 = .ok (.aload_n 0, 1) := by decide +kernel
theorem dX6_isTold_44 : decode cX6_isTold 44 = .ok (.getfield 106, 3) := by decide +kernel
theorem dX6_isTold_47 : decode cX6_isTold 47 = .ok (.if_icmp .ge 109, 3) := by decide +kernel
theorem dX6_isTold_50 : decode cX6_isTold 50 = .ok (.aload_n 0, 1) := by decide +kernel
theorem dX6_isTold_51 : decode cX6_isTold 51 = .ok (.getfield 35, 3) := by decide +kernel
theorem dX6_isTold_54 : decode cX6_isTold 54 = .ok (.iload 4, 2) := by decide +kernel
theorem dX6_isTold_56 : decode cX6_isTold 56 = .ok (.iaload, 1) := by decide +kernel
theorem dX6_isTold_57 : decode cX6_isTold 57 = .ok (.iload_n 1, 1) := by decide +kernel
theorem dX6_isTold_58 : decode cX6_isTold 58 = .ok (.if_icmp .ne 12, 3) := by decide +kernel
theorem dX6_isTold_61 : decode cX6_isTold 61 = .ok (.aload_n 0, 1) := by decide +kernel
theorem dX6_isTold_62 : decode cX6_isTold 62 = .ok (.iload 4, 2) := by decide +kernel
theorem dX6_isTold_64 : decode cX6_isTold 64 = .ok (.invokevirtual 109, 3) := by decide +kernel
theorem dX6_isTold_67 : decode cX6_isTold 67 = .ok (.goto 4, 3) := by decide +kernel
theorem dX6_isTold_70 : decode cX6_isTold 70 = .ok (.iconst 0, 1) := by decide +kernel
theorem dX6_isTold_71 : decode cX6_isTold 71 = .ok (.istore 5, 2) := by decide +kernel
theorem dX6_isTold_73 : decode cX6_isTold 73 = .ok (.iload 5, 2) := by decide +kernel
theorem dX6_isTold_75 : decode cX6_isTold 75 = .ok (.ifCond .eq 9, 3) := by decide +kernel
theorem dX6_isTold_78 : decode cX6_isTold 78 = .ok (.iload 5, 2) := by decide +kernel
theorem dX6_isTold_80 : decode cX6_isTold 80 = .ok (.iload_n 3, 1) := by decide +kernel
theorem dX6_isTold_81 : decode cX6_isTold 81 = .ok (.if_icmp .ne 7, 3) := by decide +kernel
theorem dX6_isTold_84 : decode cX6_isTold 84 = .ok (.iconst 1, 1) := by decide +kernel
theorem dX6_isTold_85 : decode cX6_isTold 85 = .ok (.goto 4, 3) := by decide +kernel
theorem dX6_isTold_88 : decode cX6_isTold 88 = .ok (.iconst 0, 1) := by decide +kernel
theorem dX6_isTold_89 : decode cX6_isTold 89 = .ok (.istore 6, 2) := by decide +kernel
theorem dX6_isTold_91 : decode cX6_isTold 91 = .ok (.iconst 0, 1) := by decide +kernel
theorem dX6_isTold_92 : decode cX6_isTold 92 = .ok (.istore 7, 2) := by decide +kernel
theorem dX6_isTold_94 : decode cX6_isTold 94 = .ok (.iload 7, 2) := by decide +kernel
theorem dX6_isTold_96 : decode cX6_isTold 96 = .ok (.iload_n 2, 1) := by decide +kernel
theorem dX6_isTold_97 : decode cX6_isTold 97 = .ok (.if_icmp .ge 46, 3) := by decide +kernel
theorem dX6_isTold_100 : decode cX6_isTold 100 = .ok (.iload 6, 2) := by decide +kernel
theorem dX6_isTold_102 : decode cX6_isTold 102 = .ok (.ifCond .ne 28, 3) := by decide +kernel
theorem dX6_isTold_105 : decode cX6_isTold 105 = .ok (.aload_n 0, 1) := by decide +kernel
theorem dX6_isTold_106 : decode cX6_isTold 106 = .ok (.iload 4, 2) := by decide +kernel
theorem dX6_isTold_108 : decode cX6_isTold 108 = .ok (.invokevirtual 163, 3) := by decide +kernel
theorem dX6_isTold_111 : decode cX6_isTold 111 = .ok (.ifCond .ne 23, 3) := by decide +kernel
theorem dX6_isTold_114 : decode cX6_isTold 114 = .ok (.aload_n 0, 1) := by decide +kernel
theorem dX6_isTold_115 : decode cX6_isTold 115 = .ok (.aload_n 0, 1) := by decide +kernel
theorem dX6_isTold_116 : decode cX6_isTold 116 = .ok (.getfield 71, 3) := by decide +kernel
theorem dX6_isTold_119 : decode cX6_isTold 119 = .ok (.iload 7, 2) := by decide +kernel
theorem dX6_isTold_121 : decode cX6_isTold 121 = .ok (.iaload, 1) := by decide +kernel
theorem dX6_isTold_122 : decode cX6_isTold 122 = .ok (.iload 4, 2) := by decide +kernel
theorem dX6_isTold_124 : decode cX6_isTold 124 = .ok (.invokevirtual 102, 3) := by decide +kernel
theorem dX6_isTold_127 : decode cX6_isTold 127 = .ok (.ifCond .eq 7, 3) := by decide +kernel
theorem dX6_isTold_130 : decode cX6_isTold 130 = .ok (.iconst 1, 1) := by decide +kernel
theorem dX6_isTold_131 : decode cX6_isTold 131 = .ok (.goto 4, 3) := by decide +kernel
theorem dX6_isTold_134 : decode cX6_isTold 134 = .ok (.iconst 0, 1) := by decide +kernel
theorem dX6_isTold_135 : decode cX6_isTold 135 = .ok (.istore 6, 2) := by decide +kernel
theorem dX6_isTold_137 : decode cX6_isTold 137 = .ok (.iinc 7 1, 3) := by decide +kernel
theorem dX6_isTold_140 : decode cX6_isTold 140 = .ok (.goto (-46), 3) := by decide +kernel
theorem dX6_isTold_143 : decode cX6_isTold 143 = .ok (.iload 6, 2) := by decide +kernel
theorem dX6_isTold_145 : decode cX6_isTold 145 = .ok (.ifCond .ne 5, 3) := by decide +kernel
theorem dX6_isTold_148 : decode cX6_isTold 148 = .ok (.iconst 0, 1) := by decide +kernel
theorem dX6_isTold_149 : decode cX6_isTold 149 = .ok (.ireturn, 1) := by decide +kernel
theorem dX6_isTold_150 : decode cX6_isTold 150 = .ok (.iinc 4 1, 3) := by decide +kernel
theorem dX6_isTold_153 : decode cX6_isTold 153 = .ok (.goto (-112), 3) := by decide +kernel
theorem dX6_isTold_156 : decode cX6_isTold 156 = .ok (.iconst 1, 1) := by decide +kernel
theorem dX6_isTold_157 : decode cX6_isTold 157 = .ok (.ireturn, 1) := by decide +kernel
theorem dX6_step_0 : decode cX6_step 0 = .ok (.iload_n 1, 1) := by decide +kernel
theorem dX6_step_1 : decode cX6_step 1 = .ok (.iconst 1, 1) := by decide +kernel
theorem dX6_step_2 : decode cX6_step 2 = .ok (.isub, 1) := by decide +kernel
theorem dX6_step_3 : decode cX6_step 3 = .ok (.istore_n 2, 1) := by decide +kernel
theorem dX6_step_4 : decode cX6_step 4 = .ok (.iload_n 2, 1) := by decide +kernel
theorem dX6_step_5 : decode cX6_step 5 = .ok (.ifCond .lt 26, 3) := by decide +kernel
theorem dX6_step_8 : decode cX6_step 8 = .ok (.aload_n 0, 1) := by decide +kernel
theorem dX6_step_9 : decode cX6_step 9 = .ok (.getfield 71, 3) := by decide +kernel
theorem dX6_step_12 : decode cX6_step 12 = .ok (.iload_n 2, 1) := by decide +kernel
theorem dX6_step_13 : decode cX6_step 13 = .ok (.iaload, 1) := by decide +kernel
theorem dX6_step_14 : decode cX6_step 14 = .ok (.aload_n 0, 1) := by decide +kernel
theorem dX6_step_15 : decode cX6_step 15 = .ok (.getfield 83, 3) := by decide +kernel
theorem dX6_step_18 : decode cX6_step 18 = .ok (.iload_n 1, 1) := by decide +kernel
theorem dX6_step_19 : decode cX6_step 19 = .ok (.isub, 1) := by decide +kernel
theorem dX6_step_20 : decode cX6_step 20 = .ok (.iload_n 2, 1) := by decide +kernel
theorem dX6_step_21 : decode cX6_step 21 = .ok (.iadd, 1) := by decide +kernel
theorem dX6_step_22 : decode cX6_step 22 = .ok (.if_icmp .ne 9, 3) := by decide +kernel
theorem dX6_step_25 : decode cX6_step 25 = .ok (.iinc 2 (-1), 3) := by decide +kernel
theorem dX6_step_28 : decode cX6_step 28 = .ok (.goto (-24), 3) := by decide +kernel
theorem dX6_step_31 : decode cX6_step 31 = .ok (.iload_n 2, 1) := by decide +kernel
theorem dX6_step_32 : decode cX6_step 32 = .ok (.ifCond .ge 5, 3) := by decide +kernel
theorem dX6_step_35 : decode cX6_step 35 = .ok (.iconst 0, 1) := by decide +kernel
theorem dX6_step_36 : decode cX6_step 36 = .ok (.ireturn, 1) := by decide +kernel
theorem dX6_step_37 : decode cX6_step 37 = .ok (.aload_n 0, 1) := by decide +kernel
theorem dX6_step_38 : decode cX6_step 38 = .ok (.getfield 71, 3) := by decide +kernel
theorem dX6_step_41 : decode cX6_step 41 = .ok (.iload_n 2, 1) := by decide +kernel
theorem dX6_step_42 : decode cX6_step 42 = .ok (.dup2, 1) := by decide +kernel
theorem dX6_step_43 : decode cX6_step 43 = .ok (.iaload, 1) := by decide +kernel
theorem dX6_step_44 : decode cX6_step 44 = .ok (.iconst 1, 1) := by decide +kernel
theorem dX6_step_45 : decode cX6_step 45 = .ok (.iadd, 1) := by decide +kernel
theorem dX6_step_46 : decode cX6_step 46 = .ok (.iastore, 1) := by decide +kernel
theorem dX6_step_47 : decode cX6_step 47 = .ok (.iload_n 2, 1) := by decide +kernel
theorem dX6_step_48 : decode cX6_step 48 = .ok (.iconst 1, 1) := by decide +kernel
theorem dX6_step_49 : decode cX6_step 49 = .ok (.iadd, 1) := by decide +kernel
theorem dX6_step_50 : decode cX6_step 50 = .ok (.istore_n 3, 1) := by decide +kernel
theorem dX6_step_51 : decode cX6_step 51 = .ok (.iload_n 3, 1) := by decide +kernel
theorem dX6_step_52 : decode cX6_step 52 = .ok (.iload_n 1, 1) := by decide +kernel
theorem dX6_step_53 : decode cX6_step 53 = .ok (.if_icmp .ge 25, 3) := by decide +kernel
theorem dX6_step_56 : decode cX6_step 56 = .ok (.aload_n 0, 1) := by decide +kernel
theorem dX6_step_57 : decode cX6_step 57 = .ok (.getfield 71, 3) := by decide +kernel
theorem dX6_step_60 : decode cX6_step 60 = .ok (.iload_n 3, 1) := by decide +kernel
theorem dX6_step_61 : decode cX6_step 61 = .ok (.aload_n 0, 1) := by decide +kernel
theorem dX6_step_62 : decode cX6_step 62 = .ok (.getfield 71, 3) := by decide +kernel
theorem dX6_step_65 : decode cX6_step 65 = .ok (.iload_n 3, 1) := by decide +kernel
theorem dX6_step_66 : decode cX6_step 66 = .ok (.iconst 1, 1) := by decide +kernel
theorem dX6_step_67 : decode cX6_step 67 = .ok (.isub, 1) := by decide +kernel
theorem dX6_step_68 : decode cX6_step 68 = .ok (.iaload, 1) := by decide +kernel
theorem dX6_step_69 : decode cX6_step 69 = .ok (.iconst 1, 1) := by decide +kernel
theorem dX6_step_70 : decode cX6_step 70 = .ok (.iadd, 1) := by decide +kernel
theorem dX6_step_71 : decode cX6_step 71 = .ok (.iastore, 1) := by decide +kernel
theorem dX6_step_72 : decode cX6_step 72 = .ok (.iinc 3 1, 3) := by decide +kernel
theorem dX6_step_75 : decode cX6_step 75 = .ok (.goto (-24), 3) := by decide +kernel
theorem dX6_step_78 : decode cX6_step 78 = .ok (.iconst 1, 1) := by decide +kernel
theorem dX6_step_79 : decode cX6_step 79 = .ok (.ireturn, 1) := by decide +kernel
theorem dX6_findTellers_0 : decode cX6_findTellers 0 = .ok (.iconst 0, 1) := by decide +kernel
theorem dX6_findTellers_1 : decode cX6_findTellers 1 = .ok (.istore_n 2, 1) := by decide +kernel
theorem dX6_findTellers_2 : decode cX6_findTellers 2 = .ok (.iload_n 2, 1) := by decide +kernel
theorem dX6_findTellers_3 : decode cX6_findTellers 3 = .ok (.iconst 4, 1) := by decide +kernel
theorem dX6_findTellers_4 : decode cX6_findTellers 4 = .ok (.if_icmp .gt 71, 3) := by decide +kernel
theorem dX6_findTellers_7 : decode cX6_findTellers 7 = .ok (.iload_n 2, 1) := by decide +kernel
theorem dX6_findTellers_8 : decode cX6_findTellers 8 = .ok (.aload_n 0, 1) := by decide +kernel
theorem dX6_findTellers_9 : decode cX6_findTellers 9 = .ok (.getfield 83, 3) := by decide +kernel
theorem dX6_findTellers_12 : decode cX6_findTellers 12 = .ok (.if_icmp .gt 63, 3) := by decide +kernel
theorem dX6_findTellers_15 : decode cX6_findTellers 15 = .ok (.iconst 0, 1) := by decide +kernel
theorem dX6_findTellers_16 : decode cX6_findTellers 16 = .ok (.istore_n 3, 1) := by decide +kernel
theorem dX6_findTellers_17 : decode cX6_findTellers 17 = .ok (.iload_n 3, 1) := by decide +kernel
theorem dX6_findTellers_18 : decode cX6_findTellers 18 = .ok (.iload_n 2, 1) := by decide +kernel
theorem dX6_findTellers_19 : decode cX6_findTellers 19 = .ok (.if_icmp .ge 16, 3) := by decide +kernel
theorem dX6_findTellers_22 : decode cX6_findTellers 22 = .ok (.aload_n 0, 1) := by decide +kernel
theorem dX6_findTellers_23 : decode cX6_findTellers 23 = .ok (.getfield 71, 3) := by decide +kernel
theorem dX6_findTellers_26 : decode cX6_findTellers 26 = .ok (.iload_n 3, 1) := by decide +kernel
theorem dX6_findTellers_27 : decode cX6_findTellers 27 = .ok (.iload_n 3, 1) := by decide +kernel
theorem dX6_findTellers_28 : decode cX6_findTellers 28 = .ok (.iastore, 1) := by decide +kernel
theorem dX6_findTellers_29 : decode cX6_findTellers 29 = .ok (.iinc 3 1, 3) := by decide +kernel
theorem dX6_findTellers_32 : decode cX6_findTellers 32 = .ok (.goto (-15), 3) := by decide +kernel
theorem dX6_findTellers_35 : decode cX6_findTellers 35 = .ok (.iconst 1, 1) := by decide +kernel
theorem dX6_findTellers_36 : decode cX6_findTellers 36 = .ok (.istore_n 3, 1) := by decide +kernel
theorem dX6_findTellers_37 : decode cX6_findTellers 37 = .ok (.iload_n 3, 1) := by decide +kernel
theorem dX6_findTellers_38 : decode cX6_findTellers 38 = .ok (.ifCond .eq 31, 3) := by decide +kernel
theorem dX6_findTellers_41 : decode cX6_findTellers 41 = .ok (.aload_n 0, 1) := by decide +kernel
theorem dX6_findTellers_42 : decode cX6_findTellers 42 = .ok (.iload_n 2, 1) := by decide +kernel
theorem dX6_findTellers_43 : decode cX6_findTellers 43 = .ok (.invokevirtual 207, 3) := by decide +kernel
theorem dX6_findTellers_46 : decode cX6_findTellers 46 = .ok (.ifCond .eq 14, 3) := by decide +kernel
theorem dX6_findTellers_49 : decode cX6_findTellers 49 = .ok (.aload_n 0, 1) := by decide +kernel
theorem dX6_findTellers_50 : decode cX6_findTellers 50 = .ok (.iload_n 1, 1) := by decide +kernel
theorem dX6_findTellers_51 : decode cX6_findTellers 51 = .ok (.iload_n 2, 1) := by decide +kernel
theorem dX6_findTellers_52 : decode cX6_findTellers 52 = .ok (.invokevirtual 210, 3) := by decide +kernel
theorem dX6_findTellers_55 : decode cX6_findTellers 55 = .ok (.ifCond .eq 5, 3) := by decide +kernel
theorem dX6_findTellers_58 : decode cX6_findTellers 58 = .ok (.iload_n 2, 1) := by decide +kernel
theorem dX6_findTellers_59 : decode cX6_findTellers 59 = .ok (.ireturn, 1) := by decide +kernel
theorem dX6_findTellers_60 : decode cX6_findTellers 60 = .ok (.aload_n 0, 1) := by decide +kernel
theorem dX6_findTellers_61 : decode cX6_findTellers 61 = .ok (.iload_n 2, 1) := by decide +kernel
theorem dX6_findTellers_62 : decode cX6_findTellers 62 = .ok (.invokevirtual 213, 3) := by decide +kernel
theorem dX6_findTellers_65 : decode cX6_findTellers 65 = .ok (.istore_n 3, 1) := by decide +kernel
theorem dX6_findTellers_66 : decode cX6_findTellers 66 = .ok (.goto (-29), 3) := by decide +kernel
theorem dX6_findTellers_69 : decode cX6_findTellers 69 = .ok (.iinc 2 1, 3) := by decide +kernel
theorem dX6_findTellers_72 : decode cX6_findTellers 72 = .ok (.goto (-70), 3) := by decide +kernel
theorem dX6_findTellers_75 : decode cX6_findTellers 75 = .ok (.bipush (-4), 2) := by decide +kernel
theorem dX6_findTellers_77 : decode cX6_findTellers 77 = .ok (.ireturn, 1) := by decide +kernel
theorem dX6_areAlive_0 : decode cX6_areAlive 0 = .ok (.iconst 1, 1) := by decide +kernel
theorem dX6_areAlive_1 : decode cX6_areAlive 1 = .ok (.istore_n 2, 1) := by decide +kernel
theorem dX6_areAlive_2 : decode cX6_areAlive 2 = .ok (.iconst 0, 1) := by decide +kernel
theorem dX6_areAlive_3 : decode cX6_areAlive 3 = .ok (.istore_n 3, 1) := by decide +kernel
theorem dX6_areAlive_4 : decode cX6_areAlive 4 = .ok (.iload_n 3, 1) := by decide +kernel
theorem dX6_areAlive_5 : decode cX6_areAlive 5 = .ok (.iload_n 1, 1) := by decide +kernel
theorem dX6_areAlive_6 : decode cX6_areAlive 6 = .ok (.if_icmp .ge 33, 3) := by decide +kernel
theorem dX6_areAlive_9 : decode cX6_areAlive 9 = .ok (.iload_n 2, 1) := by decide +kernel
theorem dX6_areAlive_10 : decode cX6_areAlive 10 = .ok (.ifCond .eq 21, 3) := by decide +kernel
theorem dX6_areAlive_13 : decode cX6_areAlive 13 = .ok (.aload_n 0, 1) := by decide +kernel
theorem dX6_areAlive_14 : decode cX6_areAlive 14 = .ok (.getfield 13, 3) := by decide +kernel
theorem dX6_areAlive_17 : decode cX6_areAlive 17 = .ok (.aload_n 0, 1) := by decide +kernel
theorem dX6_areAlive_18 : decode cX6_areAlive 18 = .ok (.getfield 71, 3) := by decide +kernel
theorem dX6_areAlive_21 : decode cX6_areAlive 21 = .ok (.iload_n 3, 1) := by decide +kernel
theorem dX6_areAlive_22 : decode cX6_areAlive 22 = .ok (.iaload, 1) := by decide +kernel
theorem dX6_areAlive_23 : decode cX6_areAlive 23 = .ok (.baload, 1) := by decide +kernel
theorem dX6_areAlive_24 : decode cX6_areAlive 24 = .ok (.ifCond .eq 7, 3) := by decide +kernel
theorem dX6_areAlive_27 : decode cX6_areAlive 27 = .ok (.iconst 1, 1) := by decide +kernel
theorem dX6_areAlive_28 : decode cX6_areAlive 28 = .ok (.goto 4, 3) := by decide +kernel
theorem dX6_areAlive_31 : decode cX6_areAlive 31 = .ok (.iconst 0, 1) := by decide +kernel
theorem dX6_areAlive_32 : decode cX6_areAlive 32 = .ok (.istore_n 2, 1) := by decide +kernel
theorem dX6_areAlive_33 : decode cX6_areAlive 33 = .ok (.iinc 3 1, 3) := by decide +kernel
theorem dX6_areAlive_36 : decode cX6_areAlive 36 = .ok (.goto (-32), 3) := by decide +kernel
theorem dX6_areAlive_39 : decode cX6_areAlive 39 = .ok (.iload_n 2, 1) := by decide +kernel
theorem dX6_areAlive_40 : decode cX6_areAlive 40 = .ok (.ireturn, 1) := by decide +kernel
theorem dX6_fewest_0 : decode cX6_fewest 0 = .ok (.aload_n 0, 1) := by decide +kernel
theorem dX6_fewest_1 : decode cX6_fewest 1 = .ok (.iload_n 1, 1) := by decide +kernel
theorem dX6_fewest_2 : decode cX6_fewest 2 = .ok (.invokevirtual 129, 3) := by decide +kernel
theorem dX6_fewest_5 : decode cX6_fewest 5 = .ok (.ifCond .eq 11, 3) := by decide +kernel
theorem dX6_fewest_8 : decode cX6_fewest 8 = .ok (.aload_n 0, 1) := by decide +kernel
theorem dX6_fewest_9 : decode cX6_fewest 9 = .ok (.iload_n 1, 1) := by decide +kernel
theorem dX6_fewest_10 : decode cX6_fewest 10 = .ok (.invokevirtual 216, 3) := by decide +kernel
theorem dX6_fewest_13 : decode cX6_fewest 13 = .ok (.goto 4, 3) := by decide +kernel
theorem dX6_fewest_16 : decode cX6_fewest 16 = .ok (.iconst (-1), 1) := by decide +kernel
theorem dX6_fewest_17 : decode cX6_fewest 17 = .ok (.ireturn, 1) := by decide +kernel
theorem dX6_teller_0 : decode cX6_teller 0 = .ok (.aload_n 0, 1) := by decide +kernel
theorem dX6_teller_1 : decode cX6_teller 1 = .ok (.iload_n 1, 1) := by decide +kernel
theorem dX6_teller_2 : decode cX6_teller 2 = .ok (.invokevirtual 129, 3) := by decide +kernel
theorem dX6_teller_5 : decode cX6_teller 5 = .ok (.ifCond .eq 7, 3) := by decide +kernel
theorem dX6_teller_8 : decode cX6_teller 8 = .ok (.iload_n 2, 1) := by decide +kernel
theorem dX6_teller_9 : decode cX6_teller 9 = .ok (.ifCond .ge 5, 3) := by decide +kernel
theorem dX6_teller_12 : decode cX6_teller 12 = .ok (.iconst (-1), 1) := by decide +kernel
theorem dX6_teller_13 : decode cX6_teller 13 = .ok (.ireturn, 1) := by decide +kernel
theorem dX6_teller_14 : decode cX6_teller 14 = .ok (.aload_n 0, 1) := by decide +kernel
theorem dX6_teller_15 : decode cX6_teller 15 = .ok (.iload_n 1, 1) := by decide +kernel
theorem dX6_teller_16 : decode cX6_teller 16 = .ok (.invokevirtual 216, 3) := by decide +kernel
theorem dX6_teller_19 : decode cX6_teller 19 = .ok (.istore_n 3, 1) := by decide +kernel
theorem dX6_teller_20 : decode cX6_teller 20 = .ok (.iload_n 3, 1) := by decide +kernel
theorem dX6_teller_21 : decode cX6_teller 21 = .ok (.ifCond .ge 8, 3) := by decide +kernel
theorem dX6_teller_24 : decode cX6_teller 24 = .ok (.bipush (-4), 2) := by decide +kernel
theorem dX6_teller_26 : decode cX6_teller 26 = .ok (.goto 18, 3) := by decide +kernel
theorem dX6_teller_29 : decode cX6_teller 29 = .ok (.iload_n 2, 1) := by decide +kernel
theorem dX6_teller_30 : decode cX6_teller 30 = .ok (.iload_n 3, 1) := by decide +kernel
theorem dX6_teller_31 : decode cX6_teller 31 = .ok (.if_icmp .ge 12, 3) := by decide +kernel
theorem dX6_teller_34 : decode cX6_teller 34 = .ok (.aload_n 0, 1) := by decide +kernel
theorem dX6_teller_35 : decode cX6_teller 35 = .ok (.getfield 71, 3) := by decide +kernel
theorem dX6_teller_38 : decode cX6_teller 38 = .ok (.iload_n 2, 1) := by decide +kernel
theorem dX6_teller_39 : decode cX6_teller 39 = .ok (.iaload, 1) := by decide +kernel
theorem dX6_teller_40 : decode cX6_teller 40 = .ok (.goto 4, 3) := by decide +kernel
theorem dX6_teller_43 : decode cX6_teller 43 = .ok (.iconst (-1), 1) := by decide +kernel
theorem dX6_teller_44 : decode cX6_teller 44 = .ok (.ireturn, 1) := by decide +kernel
theorem dX6_count_0 : decode cX6_count 0 = .ok (.iconst 0, 1) := by decide +kernel
theorem dX6_count_1 : decode cX6_count 1 = .ok (.istore_n 2, 1) := by decide +kernel
theorem dX6_count_2 : decode cX6_count 2 = .ok (.iload_n 1, 1) := by decide +kernel
theorem dX6_count_3 : decode cX6_count 3 = .ok (.tableswitch 206 0 9 #[53, 58, 93, 98, 103, 108, 113, 148, 148, 201], 53) := by decide +kernel
theorem dX6_count_56 : decode cX6_count 56 = .ok (.aload_n 0, 1) := by decide +kernel
theorem dX6_count_57 : decode cX6_count 57 = .ok (.getfield 83, 3) := by decide +kernel
theorem dX6_count_60 : decode cX6_count 60 = .ok (.ireturn, 1) := by decide +kernel
theorem dX6_count_61 : decode cX6_count 61 = .ok (.iconst 0, 1) := by decide +kernel
theorem dX6_count_62 : decode cX6_count 62 = .ok (.istore_n 3, 1) := by decide +kernel
theorem dX6_count_63 : decode cX6_count 63 = .ok (.iload_n 3, 1) := by decide +kernel
theorem dX6_count_64 : decode cX6_count 64 = .ok (.aload_n 0, 1) := by decide +kernel
theorem dX6_count_65 : decode cX6_count 65 = .ok (.getfield 83, 3) := by decide +kernel
theorem dX6_count_68 : decode cX6_count 68 = .ok (.if_icmp .ge 26, 3) := by decide +kernel
theorem dX6_count_71 : decode cX6_count 71 = .ok (.iload_n 2, 1) := by decide +kernel
theorem dX6_count_72 : decode cX6_count 72 = .ok (.aload_n 0, 1) := by decide +kernel
theorem dX6_count_73 : decode cX6_count 73 = .ok (.getfield 13, 3) := by decide +kernel
theorem dX6_count_76 : decode cX6_count 76 = .ok (.iload_n 3, 1) := by decide +kernel
theorem dX6_count_77 : decode cX6_count 77 = .ok (.baload, 1) := by decide +kernel
theorem dX6_count_78 : decode cX6_count 78 = .ok (.ifCond .eq 7, 3) := by decide +kernel
theorem dX6_count_81 : decode cX6_count 81 = .ok (.iconst 1, 1) := by decide +kernel
theorem dX6_count_82 : decode cX6_count 82 = .ok (.goto 4, 3) := by decide +kernel
theorem dX6_count_85 : decode cX6_count 85 = .ok (.iconst 0, 1) := by decide +kernel
theorem dX6_count_86 : decode cX6_count 86 = .ok (.iadd, 1) := by decide +kernel
theorem dX6_count_87 : decode cX6_count 87 = .ok (.istore_n 2, 1) := by decide +kernel
theorem dX6_count_88 : decode cX6_count 88 = .ok (.iinc 3 1, 3) := by decide +kernel
theorem dX6_count_91 : decode cX6_count 91 = .ok (.goto (-28), 3) := by decide +kernel
theorem dX6_count_94 : decode cX6_count 94 = .ok (.iload_n 2, 1) := by decide +kernel
theorem dX6_count_95 : decode cX6_count 95 = .ok (.ireturn, 1) := by decide +kernel
theorem dX6_count_96 : decode cX6_count 96 = .ok (.aload_n 0, 1) := by decide +kernel
theorem dX6_count_97 : decode cX6_count 97 = .ok (.invokevirtual 157, 3) := by decide +kernel
theorem dX6_count_100 : decode cX6_count 100 = .ok (.ireturn, 1) := by decide +kernel
theorem dX6_count_101 : decode cX6_count 101 = .ok (.aload_n 0, 1) := by decide +kernel
theorem dX6_count_102 : decode cX6_count 102 = .ok (.getfield 120, 3) := by decide +kernel
theorem dX6_count_105 : decode cX6_count 105 = .ok (.ireturn, 1) := by decide +kernel
theorem dX6_count_106 : decode cX6_count 106 = .ok (.aload_n 0, 1) := by decide +kernel
theorem dX6_count_107 : decode cX6_count 107 = .ok (.getfield 106, 3) := by decide +kernel
theorem dX6_count_110 : decode cX6_count 110 = .ok (.ireturn, 1) := by decide +kernel
theorem dX6_count_111 : decode cX6_count 111 = .ok (.aload_n 0, 1) := by decide +kernel
theorem dX6_count_112 : decode cX6_count 112 = .ok (.invokevirtual 116, 3) := by decide +kernel
theorem dX6_count_115 : decode cX6_count 115 = .ok (.ireturn, 1) := by decide +kernel
theorem dX6_count_116 : decode cX6_count 116 = .ok (.iconst 0, 1) := by decide +kernel
theorem dX6_count_117 : decode cX6_count 117 = .ok (.istore_n 3, 1) := by decide +kernel
theorem dX6_count_118 : decode cX6_count 118 = .ok (.iload_n 3, 1) := by decide +kernel
theorem dX6_count_119 : decode cX6_count 119 = .ok (.aload_n 0, 1) := by decide +kernel
theorem dX6_count_120 : decode cX6_count 120 = .ok (.getfield 106, 3) := by decide +kernel
theorem dX6_count_123 : decode cX6_count 123 = .ok (.if_icmp .ge 26, 3) := by decide +kernel
theorem dX6_count_126 : decode cX6_count 126 = .ok (.iload_n 2, 1) := by decide +kernel
theorem dX6_count_127 : decode cX6_count 127 = .ok (.aload_n 0, 1) := by decide +kernel
theorem dX6_count_128 : decode cX6_count 128 = .ok (.getfield 53, 3) := by decide +kernel
theorem dX6_count_131 : decode cX6_count 131 = .ok (.iload_n 3, 1) := by decide +kernel
theorem dX6_count_132 : decode cX6_count 132 = .ok (.baload, 1) := by decide +kernel
theorem dX6_count_133 : decode cX6_count 133 = .ok (.ifCond .eq 7, 3) := by decide +kernel
theorem dX6_count_136 : decode cX6_count 136 = .ok (.iconst 1, 1) := by decide +kernel
theorem dX6_count_137 : decode cX6_count 137 = .ok (.goto 4, 3) := by decide +kernel
theorem dX6_count_140 : decode cX6_count 140 = .ok (.iconst 0, 1) := by decide +kernel
theorem dX6_count_141 : decode cX6_count 141 = .ok (.iadd, 1) := by decide +kernel
theorem dX6_count_142 : decode cX6_count 142 = .ok (.istore_n 2, 1) := by decide +kernel
theorem dX6_count_143 : decode cX6_count 143 = .ok (.iinc 3 1, 3) := by decide +kernel
theorem dX6_count_146 : decode cX6_count 146 = .ok (.goto (-28), 3) := by decide +kernel
theorem dX6_count_149 : decode cX6_count 149 = .ok (.iload_n 2, 1) := by decide +kernel
theorem dX6_count_150 : decode cX6_count 150 = .ok (.ireturn, 1) := by decide +kernel
theorem dX6_count_151 : decode cX6_count 151 = .ok (.iconst 0, 1) := by decide +kernel
theorem dX6_count_152 : decode cX6_count 152 = .ok (.istore_n 3, 1) := by decide +kernel
theorem dX6_count_153 : decode cX6_count 153 = .ok (.iload_n 3, 1) := by decide +kernel
theorem dX6_count_154 : decode cX6_count 154 = .ok (.aload_n 0, 1) := by decide +kernel
theorem dX6_count_155 : decode cX6_count 155 = .ok (.getfield 120, 3) := by decide +kernel
theorem dX6_count_158 : decode cX6_count 158 = .ok (.if_icmp .ge 44, 3) := by decide +kernel
theorem dX6_count_161 : decode cX6_count 161 = .ok (.iload_n 2, 1) := by decide +kernel
theorem dX6_count_162 : decode cX6_count 162 = .ok (.iload_n 1, 1) := by decide +kernel
theorem dX6_count_163 : decode cX6_count 163 = .ok (.bipush 7, 2) := by decide +kernel
theorem dX6_count_165 : decode cX6_count 165 = .ok (.if_icmp .ne 15, 3) := by decide +kernel
theorem dX6_count_168 : decode cX6_count 168 = .ok (.aload_n 0, 1) := by decide +kernel
theorem dX6_count_169 : decode cX6_count 169 = .ok (.getfield 26, 3) := by decide +kernel
theorem dX6_count_172 : decode cX6_count 172 = .ok (.iload_n 3, 1) := by decide +kernel
theorem dX6_count_173 : decode cX6_count 173 = .ok (.iaload, 1) := by decide +kernel
theorem dX6_count_174 : decode cX6_count 174 = .ok (.ifCond .ge 19, 3) := by decide +kernel
theorem dX6_count_177 : decode cX6_count 177 = .ok (.goto 12, 3) := by decide +kernel
theorem dX6_count_180 : decode cX6_count 180 = .ok (.aload_n 0, 1) := by decide +kernel
theorem dX6_count_181 : decode cX6_count 181 = .ok (.getfield 29, 3) := by decide +kernel
theorem dX6_count_184 : decode cX6_count 184 = .ok (.iload_n 3, 1) := by decide +kernel
theorem dX6_count_185 : decode cX6_count 185 = .ok (.iaload, 1) := by decide +kernel
theorem dX6_count_186 : decode cX6_count 186 = .ok (.ifCond .le 7, 3) := by decide +kernel
theorem dX6_count_189 : decode cX6_count 189 = .ok (.iconst 1, 1) := by decide +kernel
theorem dX6_count_190 : decode cX6_count 190 = .ok (.goto 4, 3) := by decide +kernel
theorem dX6_count_193 : decode cX6_count 193 = .ok (.iconst 0, 1) := by decide +kernel
theorem dX6_count_194 : decode cX6_count 194 = .ok (.iadd, 1) := by decide +kernel
theorem dX6_count_195 : decode cX6_count 195 = .ok (.istore_n 2, 1) := by decide +kernel
theorem dX6_count_196 : decode cX6_count 196 = .ok (.iinc 3 1, 3) := by decide +kernel
theorem dX6_count_199 : decode cX6_count 199 = .ok (.goto (-46), 3) := by decide +kernel
theorem dX6_count_202 : decode cX6_count 202 = .ok (.iload_n 2, 1) := by decide +kernel
theorem dX6_count_203 : decode cX6_count 203 = .ok (.ireturn, 1) := by decide +kernel
theorem dX6_count_204 : decode cX6_count 204 = .ok (.aload_n 0, 1) := by decide +kernel
theorem dX6_count_205 : decode cX6_count 205 = .ok (.getfield 99, 3) := by decide +kernel
theorem dX6_count_208 : decode cX6_count 208 = .ok (.ireturn, 1) := by decide +kernel
theorem dX6_count_209 : decode cX6_count 209 = .ok (.iconst (-1), 1) := by decide +kernel
theorem dX6_count_210 : decode cX6_count 210 = .ok (.ireturn, 1) := by decide +kernel
theorem dX6_cross_0 : decode cX6_cross 0 = .ok (.aload_n 0, 1) := by decide +kernel
theorem dX6_cross_1 : decode cX6_cross 1 = .ok (.iload_n 1, 1) := by decide +kernel
theorem dX6_cross_2 : decode cX6_cross 2 = .ok (.invokevirtual 129, 3) := by decide +kernel
theorem dX6_cross_5 : decode cX6_cross 5 = .ok (.ifCond .ne 5, 3) := by decide +kernel
theorem dX6_cross_8 : decode cX6_cross 8 = .ok (.iconst (-1), 1) := by decide +kernel
theorem dX6_cross_9 : decode cX6_cross 9 = .ok (.ireturn, 1) := by decide +kernel
theorem dX6_cross_10 : decode cX6_cross 10 = .ok (.aload_n 0, 1) := by decide +kernel
theorem dX6_cross_11 : decode cX6_cross 11 = .ok (.getfield 29, 3) := by decide +kernel
theorem dX6_cross_14 : decode cX6_cross 14 = .ok (.iload_n 1, 1) := by decide +kernel
theorem dX6_cross_15 : decode cX6_cross 15 = .ok (.iaload, 1) := by decide +kernel
theorem dX6_cross_16 : decode cX6_cross 16 = .ok (.ifCond .le 6, 3) := by decide +kernel
theorem dX6_cross_19 : decode cX6_cross 19 = .ok (.bipush (-2), 2) := by decide +kernel
theorem dX6_cross_21 : decode cX6_cross 21 = .ok (.ireturn, 1) := by decide +kernel
theorem dX6_cross_22 : decode cX6_cross 22 = .ok (.aload_n 0, 1) := by decide +kernel
theorem dX6_cross_23 : decode cX6_cross 23 = .ok (.getfield 29, 3) := by decide +kernel
theorem dX6_cross_26 : decode cX6_cross 26 = .ok (.iload_n 1, 1) := by decide +kernel
theorem dX6_cross_27 : decode cX6_cross 27 = .ok (.aload_n 0, 1) := by decide +kernel
theorem dX6_cross_28 : decode cX6_cross 28 = .ok (.getfield 23, 3) := by decide +kernel
theorem dX6_cross_31 : decode cX6_cross 31 = .ok (.iload_n 1, 1) := by decide +kernel
theorem dX6_cross_32 : decode cX6_cross 32 = .ok (.iaload, 1) := by decide +kernel
theorem dX6_cross_33 : decode cX6_cross 33 = .ok (.iastore, 1) := by decide +kernel
theorem dX6_cross_34 : decode cX6_cross 34 = .ok (.aload_n 0, 1) := by decide +kernel
theorem dX6_cross_35 : decode cX6_cross 35 = .ok (.getfield 29, 3) := by decide +kernel
theorem dX6_cross_38 : decode cX6_cross 38 = .ok (.iload_n 1, 1) := by decide +kernel
theorem dX6_cross_39 : decode cX6_cross 39 = .ok (.iaload, 1) := by decide +kernel
theorem dX6_cross_40 : decode cX6_cross 40 = .ok (.ireturn, 1) := by decide +kernel
theorem dX6_works_0 : decode cX6_works 0 = .ok (.aload_n 0, 1) := by decide +kernel
theorem dX6_works_1 : decode cX6_works 1 = .ok (.iload_n 1, 1) := by decide +kernel
theorem dX6_works_2 : decode cX6_works 2 = .ok (.invokevirtual 113, 3) := by decide +kernel
theorem dX6_works_5 : decode cX6_works 5 = .ok (.ifCond .eq 23, 3) := by decide +kernel
theorem dX6_works_8 : decode cX6_works 8 = .ok (.aload_n 0, 1) := by decide +kernel
theorem dX6_works_9 : decode cX6_works 9 = .ok (.iload_n 2, 1) := by decide +kernel
theorem dX6_works_10 : decode cX6_works 10 = .ok (.invokevirtual 129, 3) := by decide +kernel
theorem dX6_works_13 : decode cX6_works 13 = .ok (.ifCond .eq 15, 3) := by decide +kernel
theorem dX6_works_16 : decode cX6_works 16 = .ok (.iload_n 3, 1) := by decide +kernel
theorem dX6_works_17 : decode cX6_works 17 = .ok (.i2l, 1) := by decide +kernel
theorem dX6_works_18 : decode cX6_works 18 = .ok (.lconst 1, 1) := by decide +kernel
theorem dX6_works_19 : decode cX6_works 19 = .ok (.ldc2_w 219, 3) := by decide +kernel
theorem dX6_works_22 : decode cX6_works 22 = .ok (.invokestatic 87, 3) := by decide +kernel
theorem dX6_works_25 : decode cX6_works 25 = .ok (.ifCond .ne 5, 3) := by decide +kernel
theorem dX6_works_28 : decode cX6_works 28 = .ok (.iconst (-1), 1) := by decide +kernel
theorem dX6_works_29 : decode cX6_works 29 = .ok (.ireturn, 1) := by decide +kernel
theorem dX6_works_30 : decode cX6_works 30 = .ok (.aload_n 0, 1) := by decide +kernel
theorem dX6_works_31 : decode cX6_works 31 = .ok (.getfield 13, 3) := by decide +kernel
theorem dX6_works_34 : decode cX6_works 34 = .ok (.iload_n 1, 1) := by decide +kernel
theorem dX6_works_35 : decode cX6_works 35 = .ok (.baload, 1) := by decide +kernel
theorem dX6_works_36 : decode cX6_works 36 = .ok (.ifCond .eq 12, 3) := by decide +kernel
theorem dX6_works_39 : decode cX6_works 39 = .ok (.aload_n 0, 1) := by decide +kernel
theorem dX6_works_40 : decode cX6_works 40 = .ok (.getfield 29, 3) := by decide +kernel
theorem dX6_works_43 : decode cX6_works 43 = .ok (.iload_n 2, 1) := by decide +kernel
theorem dX6_works_44 : decode cX6_works 44 = .ok (.iaload, 1) := by decide +kernel
theorem dX6_works_45 : decode cX6_works 45 = .ok (.ifCond .ne 6, 3) := by decide +kernel
theorem dX6_works_48 : decode cX6_works 48 = .ok (.bipush (-2), 2) := by decide +kernel
theorem dX6_works_50 : decode cX6_works 50 = .ok (.ireturn, 1) := by decide +kernel
theorem dX6_works_51 : decode cX6_works 51 = .ok (.iload_n 3, 1) := by decide +kernel
theorem dX6_works_52 : decode cX6_works 52 = .ok (.aload_n 0, 1) := by decide +kernel
theorem dX6_works_53 : decode cX6_works 53 = .ok (.getfield 29, 3) := by decide +kernel
theorem dX6_works_56 : decode cX6_works 56 = .ok (.iload_n 2, 1) := by decide +kernel
theorem dX6_works_57 : decode cX6_works 57 = .ok (.iaload, 1) := by decide +kernel
theorem dX6_works_58 : decode cX6_works 58 = .ok (.if_icmp .ge 7, 3) := by decide +kernel
theorem dX6_works_61 : decode cX6_works 61 = .ok (.iload_n 3, 1) := by decide +kernel
theorem dX6_works_62 : decode cX6_works 62 = .ok (.goto 9, 3) := by decide +kernel
theorem dX6_works_65 : decode cX6_works 65 = .ok (.aload_n 0, 1) := by decide +kernel
theorem dX6_works_66 : decode cX6_works 66 = .ok (.getfield 29, 3) := by decide +kernel
theorem dX6_works_69 : decode cX6_works 69 = .ok (.iload_n 2, 1) := by decide +kernel
theorem dX6_works_70 : decode cX6_works 70 = .ok (.iaload, 1) := by decide +kernel
theorem dX6_works_71 : decode cX6_works 71 = .ok (.istore 4, 2) := by decide +kernel
theorem dX6_works_73 : decode cX6_works 73 = .ok (.aload_n 0, 1) := by decide +kernel
theorem dX6_works_74 : decode cX6_works 74 = .ok (.getfield 29, 3) := by decide +kernel
theorem dX6_works_77 : decode cX6_works 77 = .ok (.iload_n 2, 1) := by decide +kernel
theorem dX6_works_78 : decode cX6_works 78 = .ok (.dup2, 1) := by decide +kernel
theorem dX6_works_79 : decode cX6_works 79 = .ok (.iaload, 1) := by decide +kernel
theorem dX6_works_80 : decode cX6_works 80 = .ok (.iload 4, 2) := by decide +kernel
theorem dX6_works_82 : decode cX6_works 82 = .ok (.isub, 1) := by decide +kernel
theorem dX6_works_83 : decode cX6_works 83 = .ok (.iastore, 1) := by decide +kernel
theorem dX6_works_84 : decode cX6_works 84 = .ok (.aload_n 0, 1) := by decide +kernel
theorem dX6_works_85 : decode cX6_works 85 = .ok (.getfield 17, 3) := by decide +kernel
theorem dX6_works_88 : decode cX6_works 88 = .ok (.iload_n 1, 1) := by decide +kernel
theorem dX6_works_89 : decode cX6_works 89 = .ok (.dup2, 1) := by decide +kernel
theorem dX6_works_90 : decode cX6_works 90 = .ok (.iaload, 1) := by decide +kernel
theorem dX6_works_91 : decode cX6_works 91 = .ok (.iload 4, 2) := by decide +kernel
theorem dX6_works_93 : decode cX6_works 93 = .ok (.iadd, 1) := by decide +kernel
theorem dX6_works_94 : decode cX6_works 94 = .ok (.iastore, 1) := by decide +kernel
theorem dX6_works_95 : decode cX6_works 95 = .ok (.aload_n 0, 1) := by decide +kernel
theorem dX6_works_96 : decode cX6_works 96 = .ok (.getfield 29, 3) := by decide +kernel
theorem dX6_works_99 : decode cX6_works 99 = .ok (.iload_n 2, 1) := by decide +kernel
theorem dX6_works_100 : decode cX6_works 100 = .ok (.iaload, 1) := by decide +kernel
theorem dX6_works_101 : decode cX6_works 101 = .ok (.ireturn, 1) := by decide +kernel
theorem dX6_worked_0 : decode cX6_worked 0 = .ok (.aload_n 0, 1) := by decide +kernel
theorem dX6_worked_1 : decode cX6_worked 1 = .ok (.iload_n 1, 1) := by decide +kernel
theorem dX6_worked_2 : decode cX6_worked 2 = .ok (.invokevirtual 113, 3) := by decide +kernel
theorem dX6_worked_5 : decode cX6_worked 5 = .ok (.ifCond .eq 12, 3) := by decide +kernel
theorem dX6_worked_8 : decode cX6_worked 8 = .ok (.aload_n 0, 1) := by decide +kernel
theorem dX6_worked_9 : decode cX6_worked 9 = .ok (.getfield 17, 3) := by decide +kernel
theorem dX6_worked_12 : decode cX6_worked 12 = .ok (.iload_n 1, 1) := by decide +kernel
theorem dX6_worked_13 : decode cX6_worked 13 = .ok (.iaload, 1) := by decide +kernel
theorem dX6_worked_14 : decode cX6_worked 14 = .ok (.goto 4, 3) := by decide +kernel
theorem dX6_worked_17 : decode cX6_worked 17 = .ok (.iconst (-1), 1) := by decide +kernel
theorem dX6_worked_18 : decode cX6_worked 18 = .ok (.ireturn, 1) := by decide +kernel
theorem dX6_isSheet_0 : decode cX6_isSheet 0 = .ok (.iload_n 0, 1) := by decide +kernel
theorem dX6_isSheet_1 : decode cX6_isSheet 1 = .ok (.i2l, 1) := by decide +kernel
theorem dX6_isSheet_2 : decode cX6_isSheet 2 = .ok (.lconst 0, 1) := by decide +kernel
theorem dX6_isSheet_3 : decode cX6_isSheet 3 = .ok (.ldc2_w 132, 3) := by decide +kernel
theorem dX6_isSheet_6 : decode cX6_isSheet 6 = .ok (.invokestatic 87, 3) := by decide +kernel
theorem dX6_isSheet_9 : decode cX6_isSheet 9 = .ok (.ifCond .eq 19, 3) := by decide +kernel
theorem dX6_isSheet_12 : decode cX6_isSheet 12 = .ok (.iload_n 1, 1) := by decide +kernel
theorem dX6_isSheet_13 : decode cX6_isSheet 13 = .ok (.i2l, 1) := by decide +kernel
theorem dX6_isSheet_14 : decode cX6_isSheet 14 = .ok (.lconst 0, 1) := by decide +kernel
theorem dX6_isSheet_15 : decode cX6_isSheet 15 = .ok (.ldc2_w 221, 3) := by decide +kernel
theorem dX6_isSheet_18 : decode cX6_isSheet 18 = .ok (.invokestatic 87, 3) := by decide +kernel
theorem dX6_isSheet_21 : decode cX6_isSheet 21 = .ok (.ifCond .eq 7, 3) := by decide +kernel
theorem dX6_isSheet_24 : decode cX6_isSheet 24 = .ok (.iconst 1, 1) := by decide +kernel
theorem dX6_isSheet_25 : decode cX6_isSheet 25 = .ok (.goto 4, 3) := by decide +kernel
theorem dX6_isSheet_28 : decode cX6_isSheet 28 = .ok (.iconst 0, 1) := by decide +kernel
theorem dX6_isSheet_29 : decode cX6_isSheet 29 = .ok (.ireturn, 1) := by decide +kernel
theorem dX6_sheet_0 : decode cX6_sheet 0 = .ok (.iload_n 1, 1) := by decide +kernel
theorem dX6_sheet_1 : decode cX6_sheet 1 = .ok (.iload_n 2, 1) := by decide +kernel
theorem dX6_sheet_2 : decode cX6_sheet 2 = .ok (.invokestatic 223, 3) := by decide +kernel
theorem dX6_sheet_5 : decode cX6_sheet 5 = .ok (.ifCond .eq 9, 3) := by decide +kernel
theorem dX6_sheet_8 : decode cX6_sheet 8 = .ok (.iload_n 3, 1) := by decide +kernel
theorem dX6_sheet_9 : decode cX6_sheet 9 = .ok (.bipush 36, 2) := by decide +kernel
theorem dX6_sheet_11 : decode cX6_sheet 11 = .ok (.if_icmp .le 5, 3) := by decide +kernel
theorem dX6_sheet_14 : decode cX6_sheet 14 = .ok (.iconst (-1), 1) := by decide +kernel
theorem dX6_sheet_15 : decode cX6_sheet 15 = .ok (.ireturn, 1) := by decide +kernel
theorem dX6_sheet_16 : decode cX6_sheet 16 = .ok (.iload_n 3, 1) := by decide +kernel
theorem dX6_sheet_17 : decode cX6_sheet 17 = .ok (.ifCond .ge 6, 3) := by decide +kernel
theorem dX6_sheet_20 : decode cX6_sheet 20 = .ok (.bipush (-14), 2) := by decide +kernel
theorem dX6_sheet_22 : decode cX6_sheet 22 = .ok (.ireturn, 1) := by decide +kernel
theorem dX6_sheet_23 : decode cX6_sheet 23 = .ok (.aload_n 0, 1) := by decide +kernel
theorem dX6_sheet_24 : decode cX6_sheet 24 = .ok (.getfield 74, 3) := by decide +kernel
theorem dX6_sheet_27 : decode cX6_sheet 27 = .ok (.iload_n 1, 1) := by decide +kernel
theorem dX6_sheet_28 : decode cX6_sheet 28 = .ok (.iload_n 2, 1) := by decide +kernel
theorem dX6_sheet_29 : decode cX6_sheet 29 = .ok (.iastore, 1) := by decide +kernel
theorem dX6_sheet_30 : decode cX6_sheet 30 = .ok (.aload_n 0, 1) := by decide +kernel
theorem dX6_sheet_31 : decode cX6_sheet 31 = .ok (.getfield 77, 3) := by decide +kernel
theorem dX6_sheet_34 : decode cX6_sheet 34 = .ok (.iload_n 1, 1) := by decide +kernel
theorem dX6_sheet_35 : decode cX6_sheet 35 = .ok (.iload_n 3, 1) := by decide +kernel
theorem dX6_sheet_36 : decode cX6_sheet 36 = .ok (.iastore, 1) := by decide +kernel
theorem dX6_sheet_37 : decode cX6_sheet 37 = .ok (.iconst 0, 1) := by decide +kernel
theorem dX6_sheet_38 : decode cX6_sheet 38 = .ok (.istore 4, 2) := by decide +kernel
theorem dX6_sheet_40 : decode cX6_sheet 40 = .ok (.iload 4, 2) := by decide +kernel
theorem dX6_sheet_42 : decode cX6_sheet 42 = .ok (.bipush 36, 2) := by decide +kernel
theorem dX6_sheet_44 : decode cX6_sheet 44 = .ok (.if_icmp .ge 22, 3) := by decide +kernel
theorem dX6_sheet_47 : decode cX6_sheet 47 = .ok (.aload_n 0, 1) := by decide +kernel
theorem dX6_sheet_48 : decode cX6_sheet 48 = .ok (.getfield 80, 3) := by decide +kernel
theorem dX6_sheet_51 : decode cX6_sheet 51 = .ok (.bipush 36, 2) := by decide +kernel
theorem dX6_sheet_53 : decode cX6_sheet 53 = .ok (.iload_n 1, 1) := by decide +kernel
theorem dX6_sheet_54 : decode cX6_sheet 54 = .ok (.imul, 1) := by decide +kernel
theorem dX6_sheet_55 : decode cX6_sheet 55 = .ok (.iload 4, 2) := by decide +kernel
theorem dX6_sheet_57 : decode cX6_sheet 57 = .ok (.iadd, 1) := by decide +kernel
theorem dX6_sheet_58 : decode cX6_sheet 58 = .ok (.iconst 0, 1) := by decide +kernel
theorem dX6_sheet_59 : decode cX6_sheet 59 = .ok (.iastore, 1) := by decide +kernel
theorem dX6_sheet_60 : decode cX6_sheet 60 = .ok (.iinc 4 1, 3) := by decide +kernel
theorem dX6_sheet_63 : decode cX6_sheet 63 = .ok (.goto (-23), 3) := by decide +kernel
theorem dX6_sheet_66 : decode cX6_sheet 66 = .ok (.iload_n 3, 1) := by decide +kernel
theorem dX6_sheet_67 : decode cX6_sheet 67 = .ok (.ireturn, 1) := by decide +kernel
theorem dX6_drop_0 : decode cX6_drop 0 = .ok (.iload_n 1, 1) := by decide +kernel
theorem dX6_drop_1 : decode cX6_drop 1 = .ok (.i2l, 1) := by decide +kernel
theorem dX6_drop_2 : decode cX6_drop 2 = .ok (.lconst 0, 1) := by decide +kernel
theorem dX6_drop_3 : decode cX6_drop 3 = .ok (.ldc2_w 132, 3) := by decide +kernel
theorem dX6_drop_6 : decode cX6_drop 6 = .ok (.invokestatic 87, 3) := by decide +kernel
theorem dX6_drop_9 : decode cX6_drop 9 = .ok (.ifCond .ne 5, 3) := by decide +kernel
theorem dX6_drop_12 : decode cX6_drop 12 = .ok (.iconst (-1), 1) := by decide +kernel
theorem dX6_drop_13 : decode cX6_drop 13 = .ok (.ireturn, 1) := by decide +kernel
theorem dX6_drop_14 : decode cX6_drop 14 = .ok (.aload_n 0, 1) := by decide +kernel
theorem dX6_drop_15 : decode cX6_drop 15 = .ok (.getfield 74, 3) := by decide +kernel
theorem dX6_drop_18 : decode cX6_drop 18 = .ok (.iload_n 1, 1) := by decide +kernel
theorem dX6_drop_19 : decode cX6_drop 19 = .ok (.iaload, 1) := by decide +kernel
theorem dX6_drop_20 : decode cX6_drop 20 = .ok (.ifCond .ge 6, 3) := by decide +kernel
theorem dX6_drop_23 : decode cX6_drop 23 = .ok (.bipush (-11), 2) := by decide +kernel
theorem dX6_drop_25 : decode cX6_drop 25 = .ok (.ireturn, 1) := by decide +kernel
theorem dX6_drop_26 : decode cX6_drop 26 = .ok (.aload_n 0, 1) := by decide +kernel
theorem dX6_drop_27 : decode cX6_drop 27 = .ok (.getfield 74, 3) := by decide +kernel
theorem dX6_drop_30 : decode cX6_drop 30 = .ok (.iload_n 1, 1) := by decide +kernel
theorem dX6_drop_31 : decode cX6_drop 31 = .ok (.iconst (-1), 1) := by decide +kernel
theorem dX6_drop_32 : decode cX6_drop 32 = .ok (.iastore, 1) := by decide +kernel
theorem dX6_drop_33 : decode cX6_drop 33 = .ok (.aload_n 0, 1) := by decide +kernel
theorem dX6_drop_34 : decode cX6_drop 34 = .ok (.getfield 77, 3) := by decide +kernel
theorem dX6_drop_37 : decode cX6_drop 37 = .ok (.iload_n 1, 1) := by decide +kernel
theorem dX6_drop_38 : decode cX6_drop 38 = .ok (.iaload, 1) := by decide +kernel
theorem dX6_drop_39 : decode cX6_drop 39 = .ok (.ireturn, 1) := by decide +kernel
theorem dX6_item_0 : decode cX6_item 0 = .ok (.iload_n 1, 1) := by decide +kernel
theorem dX6_item_1 : decode cX6_item 1 = .ok (.iload_n 2, 1) := by decide +kernel
theorem dX6_item_2 : decode cX6_item 2 = .ok (.invokestatic 223, 3) := by decide +kernel
theorem dX6_item_5 : decode cX6_item 5 = .ok (.ifCond .ne 5, 3) := by decide +kernel
theorem dX6_item_8 : decode cX6_item 8 = .ok (.iconst (-1), 1) := by decide +kernel
theorem dX6_item_9 : decode cX6_item 9 = .ok (.ireturn, 1) := by decide +kernel
theorem dX6_item_10 : decode cX6_item 10 = .ok (.aload_n 0, 1) := by decide +kernel
theorem dX6_item_11 : decode cX6_item 11 = .ok (.getfield 74, 3) := by decide +kernel
theorem dX6_item_14 : decode cX6_item 14 = .ok (.iload_n 1, 1) := by decide +kernel
theorem dX6_item_15 : decode cX6_item 15 = .ok (.iaload, 1) := by decide +kernel
theorem dX6_item_16 : decode cX6_item 16 = .ok (.iload_n 2, 1) := by decide +kernel
theorem dX6_item_17 : decode cX6_item 17 = .ok (.if_icmp .eq 20, 3) := by decide +kernel
theorem dX6_item_20 : decode cX6_item 20 = .ok (.aload_n 0, 1) := by decide +kernel
theorem dX6_item_21 : decode cX6_item 21 = .ok (.getfield 74, 3) := by decide +kernel
theorem dX6_item_24 : decode cX6_item 24 = .ok (.iload_n 1, 1) := by decide +kernel
theorem dX6_item_25 : decode cX6_item 25 = .ok (.iaload, 1) := by decide +kernel
theorem dX6_item_26 : decode cX6_item 26 = .ok (.ifCond .ge 8, 3) := by decide +kernel
theorem dX6_item_29 : decode cX6_item 29 = .ok (.bipush (-11), 2) := by decide +kernel
theorem dX6_item_31 : decode cX6_item 31 = .ok (.goto 5, 3) := by decide +kernel
theorem dX6_item_34 : decode cX6_item 34 = .ok (.bipush (-12), 2) := by decide +kernel
theorem dX6_item_36 : decode cX6_item 36 = .ok (.ireturn, 1) := by decide +kernel
theorem dX6_item_37 : decode cX6_item 37 = .ok (.iload_n 3, 1) := by decide +kernel
theorem dX6_item_38 : decode cX6_item 38 = .ok (.i2l, 1) := by decide +kernel
theorem dX6_item_39 : decode cX6_item 39 = .ok (.lconst 0, 1) := by decide +kernel
theorem dX6_item_40 : decode cX6_item 40 = .ok (.aload_n 0, 1) := by decide +kernel
theorem dX6_item_41 : decode cX6_item 41 = .ok (.getfield 77, 3) := by decide +kernel
theorem dX6_item_44 : decode cX6_item 44 = .ok (.iload_n 1, 1) := by decide +kernel
theorem dX6_item_45 : decode cX6_item 45 = .ok (.iaload, 1) := by decide +kernel
theorem dX6_item_46 : decode cX6_item 46 = .ok (.iconst 1, 1) := by decide +kernel
theorem dX6_item_47 : decode cX6_item 47 = .ok (.isub, 1) := by decide +kernel
theorem dX6_item_48 : decode cX6_item 48 = .ok (.i2l, 1) := by decide +kernel
theorem dX6_item_49 : decode cX6_item 49 = .ok (.invokestatic 87, 3) := by decide +kernel
theorem dX6_item_52 : decode cX6_item 52 = .ok (.ifCond .ne 6, 3) := by decide +kernel
theorem dX6_item_55 : decode cX6_item 55 = .ok (.bipush (-13), 2) := by decide +kernel
theorem dX6_item_57 : decode cX6_item 57 = .ok (.ireturn, 1) := by decide +kernel
theorem dX6_item_58 : decode cX6_item 58 = .ok (.aload_n 0, 1) := by decide +kernel
theorem dX6_item_59 : decode cX6_item 59 = .ok (.getfield 80, 3) := by decide +kernel
theorem dX6_item_62 : decode cX6_item 62 = .ok (.bipush 36, 2) := by decide +kernel
theorem dX6_item_64 : decode cX6_item 64 = .ok (.iload_n 1, 1) := by decide +kernel
theorem dX6_item_65 : decode cX6_item 65 = .ok (.imul, 1) := by decide +kernel
theorem dX6_item_66 : decode cX6_item 66 = .ok (.iload_n 3, 1) := by decide +kernel
theorem dX6_item_67 : decode cX6_item 67 = .ok (.iadd, 1) := by decide +kernel
theorem dX6_item_68 : decode cX6_item 68 = .ok (.iload_n 2, 1) := by decide +kernel
theorem dX6_item_69 : decode cX6_item 69 = .ok (.ifCond .ne 14, 3) := by decide +kernel
theorem dX6_item_72 : decode cX6_item 72 = .ok (.iload 4, 2) := by decide +kernel
theorem dX6_item_74 : decode cX6_item 74 = .ok (.bipush 24, 2) := by decide +kernel
theorem dX6_item_76 : decode cX6_item 76 = .ok (.ishl, 1) := by decide +kernel
theorem dX6_item_77 : decode cX6_item 77 = .ok (.bipush 24, 2) := by decide +kernel
theorem dX6_item_79 : decode cX6_item 79 = .ok (.ishr, 1) := by decide +kernel
theorem dX6_item_80 : decode cX6_item 80 = .ok (.goto 21, 3) := by decide +kernel
theorem dX6_item_83 : decode cX6_item 83 = .ok (.iload_n 2, 1) := by decide +kernel
theorem dX6_item_84 : decode cX6_item 84 = .ok (.iconst 1, 1) := by decide +kernel
theorem dX6_item_85 : decode cX6_item 85 = .ok (.if_icmp .ne 14, 3) := by decide +kernel
theorem dX6_item_88 : decode cX6_item 88 = .ok (.iload 4, 2) := by decide +kernel
theorem dX6_item_90 : decode cX6_item 90 = .ok (.bipush 16, 2) := by decide +kernel
theorem dX6_item_92 : decode cX6_item 92 = .ok (.ishl, 1) := by decide +kernel
theorem dX6_item_93 : decode cX6_item 93 = .ok (.bipush 16, 2) := by decide +kernel
theorem dX6_item_95 : decode cX6_item 95 = .ok (.ishr, 1) := by decide +kernel
theorem dX6_item_96 : decode cX6_item 96 = .ok (.goto 5, 3) := by decide +kernel
theorem dX6_item_99 : decode cX6_item 99 = .ok (.iload 4, 2) := by decide +kernel
theorem dX6_item_101 : decode cX6_item 101 = .ok (.iastore, 1) := by decide +kernel
theorem dX6_item_102 : decode cX6_item 102 = .ok (.iconst 1, 1) := by decide +kernel
theorem dX6_item_103 : decode cX6_item 103 = .ok (.ireturn, 1) := by decide +kernel
theorem dX6_acts_0 : decode cX6_acts 0 = .ok (.iload_n 1, 1) := by decide +kernel
theorem dX6_acts_1 : decode cX6_acts 1 = .ok (.iload_n 2, 1) := by decide +kernel
theorem dX6_acts_2 : decode cX6_acts 2 = .ok (.invokestatic 223, 3) := by decide +kernel
theorem dX6_acts_5 : decode cX6_acts 5 = .ok (.ifCond .eq 16, 3) := by decide +kernel
theorem dX6_acts_8 : decode cX6_acts 8 = .ok (.iload 4, 2) := by decide +kernel
theorem dX6_acts_10 : decode cX6_acts 10 = .ok (.i2l, 1) := by decide +kernel
theorem dX6_acts_11 : decode cX6_acts 11 = .ok (.lconst 0, 1) := by decide +kernel
theorem dX6_acts_12 : decode cX6_acts 12 = .ok (.ldc2_w 134, 3) := by decide +kernel
theorem dX6_acts_15 : decode cX6_acts 15 = .ok (.invokestatic 87, 3) := by decide +kernel
theorem dX6_acts_18 : decode cX6_acts 18 = .ok (.ifCond .ne 5, 3) := by decide +kernel
theorem dX6_acts_21 : decode cX6_acts 21 = .ok (.iconst (-1), 1) := by decide +kernel
theorem dX6_acts_22 : decode cX6_acts 22 = .ok (.ireturn, 1) := by decide +kernel
theorem dX6_acts_23 : decode cX6_acts 23 = .ok (.aload_n 0, 1) := by decide +kernel
theorem dX6_acts_24 : decode cX6_acts 24 = .ok (.getfield 74, 3) := by decide +kernel
theorem dX6_acts_27 : decode cX6_acts 27 = .ok (.iload_n 1, 1) := by decide +kernel
theorem dX6_acts_28 : decode cX6_acts 28 = .ok (.iaload, 1) := by decide +kernel
theorem dX6_acts_29 : decode cX6_acts 29 = .ok (.iload_n 2, 1) := by decide +kernel
theorem dX6_acts_30 : decode cX6_acts 30 = .ok (.if_icmp .eq 20, 3) := by decide +kernel
theorem dX6_acts_33 : decode cX6_acts 33 = .ok (.aload_n 0, 1) := by decide +kernel
theorem dX6_acts_34 : decode cX6_acts 34 = .ok (.getfield 74, 3) := by decide +kernel
theorem dX6_acts_37 : decode cX6_acts 37 = .ok (.iload_n 1, 1) := by decide +kernel
theorem dX6_acts_38 : decode cX6_acts 38 = .ok (.iaload, 1) := by decide +kernel
theorem dX6_acts_39 : decode cX6_acts 39 = .ok (.ifCond .ge 8, 3) := by decide +kernel
theorem dX6_acts_42 : decode cX6_acts 42 = .ok (.bipush (-11), 2) := by decide +kernel
theorem dX6_acts_44 : decode cX6_acts 44 = .ok (.goto 5, 3) := by decide +kernel
theorem dX6_acts_47 : decode cX6_acts 47 = .ok (.bipush (-12), 2) := by decide +kernel
theorem dX6_acts_49 : decode cX6_acts 49 = .ok (.ireturn, 1) := by decide +kernel
theorem dX6_acts_50 : decode cX6_acts 50 = .ok (.iload_n 3, 1) := by decide +kernel
theorem dX6_acts_51 : decode cX6_acts 51 = .ok (.i2l, 1) := by decide +kernel
theorem dX6_acts_52 : decode cX6_acts 52 = .ok (.lconst 0, 1) := by decide +kernel
theorem dX6_acts_53 : decode cX6_acts 53 = .ok (.aload_n 0, 1) := by decide +kernel
theorem dX6_acts_54 : decode cX6_acts 54 = .ok (.getfield 77, 3) := by decide +kernel
theorem dX6_acts_57 : decode cX6_acts 57 = .ok (.iload_n 1, 1) := by decide +kernel
theorem dX6_acts_58 : decode cX6_acts 58 = .ok (.iaload, 1) := by decide +kernel
theorem dX6_acts_59 : decode cX6_acts 59 = .ok (.bipush 6, 2) := by decide +kernel
theorem dX6_acts_61 : decode cX6_acts 61 = .ok (.iload 4, 2) := by decide +kernel
theorem dX6_acts_63 : decode cX6_acts 63 = .ok (.imul, 1) := by decide +kernel
theorem dX6_acts_64 : decode cX6_acts 64 = .ok (.isub, 1) := by decide +kernel
theorem dX6_acts_65 : decode cX6_acts 65 = .ok (.i2l, 1) := by decide +kernel
theorem dX6_acts_66 : decode cX6_acts 66 = .ok (.invokestatic 87, 3) := by decide +kernel
theorem dX6_acts_69 : decode cX6_acts 69 = .ok (.ifCond .ne 6, 3) := by decide +kernel
theorem dX6_acts_72 : decode cX6_acts 72 = .ok (.bipush (-13), 2) := by decide +kernel
theorem dX6_acts_74 : decode cX6_acts 74 = .ok (.ireturn, 1) := by decide +kernel
theorem dX6_acts_75 : decode cX6_acts 75 = .ok (.iconst 0, 1) := by decide +kernel
theorem dX6_acts_76 : decode cX6_acts 76 = .ok (.istore 5, 2) := by decide +kernel
theorem dX6_acts_78 : decode cX6_acts 78 = .ok (.bipush 36, 2) := by decide +kernel
theorem dX6_acts_80 : decode cX6_acts 80 = .ok (.iload_n 1, 1) := by decide +kernel
theorem dX6_acts_81 : decode cX6_acts 81 = .ok (.imul, 1) := by decide +kernel
theorem dX6_acts_82 : decode cX6_acts 82 = .ok (.iload_n 3, 1) := by decide +kernel
theorem dX6_acts_83 : decode cX6_acts 83 = .ok (.iadd, 1) := by decide +kernel
theorem dX6_acts_84 : decode cX6_acts 84 = .ok (.istore 6, 2) := by decide +kernel
theorem dX6_acts_86 : decode cX6_acts 86 = .ok (.iload 5, 2) := by decide +kernel
theorem dX6_acts_88 : decode cX6_acts 88 = .ok (.iload 4, 2) := by decide +kernel
theorem dX6_acts_90 : decode cX6_acts 90 = .ok (.if_icmp .ge 71, 3) := by decide +kernel
theorem dX6_acts_93 : decode cX6_acts 93 = .ok (.aload_n 0, 1) := by decide +kernel
theorem dX6_acts_94 : decode cX6_acts 94 = .ok (.aload_n 0, 1) := by decide +kernel
theorem dX6_acts_95 : decode cX6_acts 95 = .ok (.getfield 80, 3) := by decide +kernel
theorem dX6_acts_98 : decode cX6_acts 98 = .ok (.iload 6, 2) := by decide +kernel
theorem dX6_acts_100 : decode cX6_acts 100 = .ok (.iaload, 1) := by decide +kernel
theorem dX6_acts_101 : decode cX6_acts 101 = .ok (.aload_n 0, 1) := by decide +kernel
theorem dX6_acts_102 : decode cX6_acts 102 = .ok (.getfield 80, 3) := by decide +kernel
theorem dX6_acts_105 : decode cX6_acts 105 = .ok (.iload 6, 2) := by decide +kernel
theorem dX6_acts_107 : decode cX6_acts 107 = .ok (.iconst 1, 1) := by decide +kernel
theorem dX6_acts_108 : decode cX6_acts 108 = .ok (.iadd, 1) := by decide +kernel
theorem dX6_acts_109 : decode cX6_acts 109 = .ok (.iaload, 1) := by decide +kernel
theorem dX6_acts_110 : decode cX6_acts 110 = .ok (.aload_n 0, 1) := by decide +kernel
theorem dX6_acts_111 : decode cX6_acts 111 = .ok (.getfield 80, 3) := by decide +kernel
theorem dX6_acts_114 : decode cX6_acts 114 = .ok (.iload 6, 2) := by decide +kernel
theorem dX6_acts_116 : decode cX6_acts 116 = .ok (.iconst 2, 1) := by decide +kernel
theorem dX6_acts_117 : decode cX6_acts 117 = .ok (.iadd, 1) := by decide +kernel
theorem dX6_acts_118 : decode cX6_acts 118 = .ok (.iaload, 1) := by decide +kernel
theorem dX6_acts_119 : decode cX6_acts 119 = .ok (.aload_n 0, 1) := by decide +kernel
theorem dX6_acts_120 : decode cX6_acts 120 = .ok (.getfield 80, 3) := by decide +kernel
theorem dX6_acts_123 : decode cX6_acts 123 = .ok (.iload 6, 2) := by decide +kernel
theorem dX6_acts_125 : decode cX6_acts 125 = .ok (.iconst 3, 1) := by decide +kernel
theorem dX6_acts_126 : decode cX6_acts 126 = .ok (.iadd, 1) := by decide +kernel
theorem dX6_acts_127 : decode cX6_acts 127 = .ok (.iaload, 1) := by decide +kernel
theorem dX6_acts_128 : decode cX6_acts 128 = .ok (.aload_n 0, 1) := by decide +kernel
theorem dX6_acts_129 : decode cX6_acts 129 = .ok (.getfield 80, 3) := by decide +kernel
theorem dX6_acts_132 : decode cX6_acts 132 = .ok (.iload 6, 2) := by decide +kernel
theorem dX6_acts_134 : decode cX6_acts 134 = .ok (.iconst 4, 1) := by decide +kernel
theorem dX6_acts_135 : decode cX6_acts 135 = .ok (.iadd, 1) := by decide +kernel
theorem dX6_acts_136 : decode cX6_acts 136 = .ok (.iaload, 1) := by decide +kernel
theorem dX6_acts_137 : decode cX6_acts 137 = .ok (.aload_n 0, 1) := by decide +kernel
theorem dX6_acts_138 : decode cX6_acts 138 = .ok (.getfield 80, 3) := by decide +kernel
theorem dX6_acts_141 : decode cX6_acts 141 = .ok (.iload 6, 2) := by decide +kernel
theorem dX6_acts_143 : decode cX6_acts 143 = .ok (.iconst 5, 1) := by decide +kernel
theorem dX6_acts_144 : decode cX6_acts 144 = .ok (.iadd, 1) := by decide +kernel
theorem dX6_acts_145 : decode cX6_acts 145 = .ok (.iaload, 1) := by decide +kernel
theorem dX6_acts_146 : decode cX6_acts 146 = .ok (.invokevirtual 226, 3) := by decide +kernel
theorem dX6_acts_149 : decode cX6_acts 149 = .ok (.ifCond .lt 12, 3) := by decide +kernel
theorem dX6_acts_152 : decode cX6_acts 152 = .ok (.iinc 5 1, 3) := by decide +kernel
theorem dX6_acts_155 : decode cX6_acts 155 = .ok (.iinc 6 6, 3) := by decide +kernel
theorem dX6_acts_158 : decode cX6_acts 158 = .ok (.goto (-72), 3) := by decide +kernel
theorem dX6_acts_161 : decode cX6_acts 161 = .ok (.iload 5, 2) := by decide +kernel
theorem dX6_acts_163 : decode cX6_acts 163 = .ok (.ireturn, 1) := by decide +kernel
