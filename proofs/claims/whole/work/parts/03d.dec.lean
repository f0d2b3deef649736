theorem dX10_init_0 : decode cX10_init 0 = .ok (.aload_n 0, 1) := by decide +kernel
theorem dX10_init_1 : decode cX10_init 1 = .ok (.invokespecial 1, 3) := by decide +kernel
theorem dX10_init_4 : decode cX10_init 4 = .ok (.aload_n 0, 1) := by decide +kernel
theorem dX10_init_5 : decode cX10_init 5 = .ok (.sipush 300, 3) := by decide +kernel
theorem dX10_init_8 : decode cX10_init 8 = .ok (.newarray .int, 2) := by decide +kernel
theorem dX10_init_10 : decode cX10_init 10 = .ok (.putfield 7, 3) := by decide +kernel
theorem dX10_init_13 : decode cX10_init 13 = .ok (.aload_n 0, 1) := by decide +kernel
theorem dX10_init_14 : decode cX10_init 14 = .ok (.iconst 2, 1) := by decide +kernel
theorem dX10_init_15 : decode cX10_init 15 = .ok (.newarray .int, 2) := by decide +kernel
theorem dX10_init_17 : decode cX10_init 17 = .ok (.putfield 13, 3) := by decide +kernel
theorem dX10_init_20 : decode cX10_init 20 = .ok (.aload_n 0, 1) := by decide +kernel
theorem dX10_init_21 : decode cX10_init 21 = .ok (.bipush 12, 2) := by decide +kernel
theorem dX10_init_23 : decode cX10_init 23 = .ok (.newarray .int, 2) := by decide +kernel
theorem dX10_init_25 : decode cX10_init 25 = .ok (.putfield 16, 3) := by decide +kernel
theorem dX10_init_28 : decode cX10_init 28 = .ok (.aload_n 0, 1) := by decide +kernel
theorem dX10_init_29 : decode cX10_init 29 = .ok (.bipush 12, 2) := by decide +kernel
theorem dX10_init_31 : decode cX10_init 31 = .ok (.newarray .int, 2) := by decide +kernel
theorem dX10_init_33 : decode cX10_init 33 = .ok (.putfield 19, 3) := by decide +kernel
theorem dX10_init_36 : decode cX10_init 36 = .ok (.aload_n 0, 1) := by decide +kernel
theorem dX10_init_37 : decode cX10_init 37 = .ok (.bipush 12, 2) := by decide +kernel
theorem dX10_init_39 : decode cX10_init 39 = .ok (.newarray .int, 2) := by decide +kernel
theorem dX10_init_41 : decode cX10_init 41 = .ok (.putfield 22, 3) := by decide +kernel
theorem dX10_init_44 : decode cX10_init 44 = .ok (.aload_n 0, 1) := by decide +kernel
theorem dX10_init_45 : decode cX10_init 45 = .ok (.bipush 72, 2) := by decide +kernel
theorem dX10_init_47 : decode cX10_init 47 = .ok (.newarray .int, 2) := by decide +kernel
theorem dX10_init_49 : decode cX10_init 49 = .ok (.putfield 25, 3) := by decide +kernel
theorem dX10_init_52 : decode cX10_init 52 = .ok (.aload_n 0, 1) := by decide +kernel
theorem dX10_init_53 : decode cX10_init 53 = .ok (.iconst 2, 1) := by decide +kernel
theorem dX10_init_54 : decode cX10_init 54 = .ok (.newarray .int, 2) := by decide +kernel
theorem dX10_init_56 : decode cX10_init 56 = .ok (.putfield 28, 3) := by decide +kernel
theorem dX10_init_59 : decode cX10_init 59 = .ok (.aload_n 0, 1) := by decide +kernel
theorem dX10_init_60 : decode cX10_init 60 = .ok (.bipush 18, 2) := by decide +kernel
theorem dX10_init_62 : decode cX10_init 62 = .ok (.newarray .int, 2) := by decide +kernel
theorem dX10_init_64 : decode cX10_init 64 = .ok (.putfield 31, 3) := by decide +kernel
theorem dX10_init_67 : decode cX10_init 67 = .ok (.aload_n 0, 1) := by decide +kernel
theorem dX10_init_68 : decode cX10_init 68 = .ok (.bipush 48, 2) := by decide +kernel
theorem dX10_init_70 : decode cX10_init 70 = .ok (.newarray .int, 2) := by decide +kernel
theorem dX10_init_72 : decode cX10_init 72 = .ok (.putfield 34, 3) := by decide +kernel
theorem dX10_init_75 : decode cX10_init 75 = .ok (.aload_n 0, 1) := by decide +kernel
theorem dX10_init_76 : decode cX10_init 76 = .ok (.bipush 12, 2) := by decide +kernel
theorem dX10_init_78 : decode cX10_init 78 = .ok (.newarray .int, 2) := by decide +kernel
theorem dX10_init_80 : decode cX10_init 80 = .ok (.putfield 37, 3) := by decide +kernel
theorem dX10_init_83 : decode cX10_init 83 = .ok (.aload_n 0, 1) := by decide +kernel
theorem dX10_init_84 : decode cX10_init 84 = .ok (.bipush 8, 2) := by decide +kernel
theorem dX10_init_86 : decode cX10_init 86 = .ok (.newarray .int, 2) := by decide +kernel
theorem dX10_init_88 : decode cX10_init 88 = .ok (.putfield 40, 3) := by decide +kernel
theorem dX10_init_91 : decode cX10_init 91 = .ok (.aload_n 0, 1) := by decide +kernel
theorem dX10_init_92 : decode cX10_init 92 = .ok (.bipush 8, 2) := by decide +kernel
theorem dX10_init_94 : decode cX10_init 94 = .ok (.newarray .int, 2) := by decide +kernel
theorem dX10_init_96 : decode cX10_init 96 = .ok (.putfield 43, 3) := by decide +kernel
theorem dX10_init_99 : decode cX10_init 99 = .ok (.aload_n 0, 1) := by decide +kernel
theorem dX10_init_100 : decode cX10_init 100 = .ok (.bipush 8, 2) := by decide +kernel
theorem dX10_init_102 : decode cX10_init 102 = .ok (.newarray .int, 2) := by decide +kernel
theorem dX10_init_104 : decode cX10_init 104 = .ok (.putfield 46, 3) := by decide +kernel
theorem dX10_init_107 : decode cX10_init 107 = .ok (.aload_n 0, 1) := by decide +kernel
theorem dX10_init_108 : decode cX10_init 108 = .ok (.bipush 8, 2) := by decide +kernel
theorem dX10_init_110 : decode cX10_init 110 = .ok (.newarray .int, 2) := by decide +kernel
theorem dX10_init_112 : decode cX10_init 112 = .ok (.putfield 49, 3) := by decide +kernel
theorem dX10_init_115 : decode cX10_init 115 = .ok (.aload_n 0, 1) := by decide +kernel
theorem dX10_init_116 : decode cX10_init 116 = .ok (.iconst 3, 1) := by decide +kernel
theorem dX10_init_117 : decode cX10_init 117 = .ok (.newarray .int, 2) := by decide +kernel
theorem dX10_init_119 : decode cX10_init 119 = .ok (.putfield 52, 3) := by decide +kernel
theorem dX10_init_122 : decode cX10_init 122 = .ok (.aload_n 0, 1) := by decide +kernel
theorem dX10_init_123 : decode cX10_init 123 = .ok (.sipush 4320, 3) := by decide +kernel
theorem dX10_init_126 : decode cX10_init 126 = .ok (.newarray .int, 2) := by decide +kernel
theorem dX10_init_128 : decode cX10_init 128 = .ok (.putfield 55, 3) := by decide +kernel
theorem dX10_init_131 : decode cX10_init 131 = .ok (.aload_n 0, 1) := by decide +kernel
theorem dX10_init_132 : decode cX10_init 132 = .ok (.ldc 58, 2) := by decide +kernel
theorem dX10_init_134 : decode cX10_init 134 = .ok (.newarray .int, 2) := by decide +kernel
theorem dX10_init_136 : decode cX10_init 136 = .ok (.putfield 59, 3) := by decide +kernel
theorem dX10_init_139 : decode cX10_init 139 = .ok (.aload_n 0, 1) := by decide +kernel
theorem dX10_init_140 : decode cX10_init 140 = .ok (.bipush 6, 2) := by decide +kernel
theorem dX10_init_142 : decode cX10_init 142 = .ok (.newarray .int, 2) := by decide +kernel
theorem dX10_init_144 : decode cX10_init 144 = .ok (.putfield 62, 3) := by decide +kernel
theorem dX10_init_147 : decode cX10_init 147 = .ok (.aload_n 0, 1) := by decide +kernel
theorem dX10_init_148 : decode cX10_init 148 = .ok (.sipush 4320, 3) := by decide +kernel
theorem dX10_init_151 : decode cX10_init 151 = .ok (.newarray .int, 2) := by decide +kernel
theorem dX10_init_153 : decode cX10_init 153 = .ok (.putfield 65, 3) := by decide +kernel
theorem dX10_init_156 : decode cX10_init 156 = .ok (.aload_n 0, 1) := by decide +kernel
theorem dX10_init_157 : decode cX10_init 157 = .ok (.sipush 720, 3) := by decide +kernel
theorem dX10_init_160 : decode cX10_init 160 = .ok (.newarray .int, 2) := by decide +kernel
theorem dX10_init_162 : decode cX10_init 162 = .ok (.putfield 68, 3) := by decide +kernel
theorem dX10_init_165 : decode cX10_init 165 = .ok (.aload_n 0, 1) := by decide +kernel
theorem dX10_init_166 : decode cX10_init 166 = .ok (.sipush 720, 3) := by decide +kernel
theorem dX10_init_169 : decode cX10_init 169 = .ok (.newarray .int, 2) := by decide +kernel
theorem dX10_init_171 : decode cX10_init 171 = .ok (.putfield 71, 3) := by decide +kernel
theorem dX10_init_174 : decode cX10_init 174 = .ok (.aload_n 0, 1) := by decide +kernel
theorem dX10_init_175 : decode cX10_init 175 = .ok (.sipush 720, 3) := by decide +kernel
theorem dX10_init_178 : decode cX10_init 178 = .ok (.newarray .long, 2) := by decide +kernel
theorem dX10_init_180 : decode cX10_init 180 = .ok (.putfield 74, 3) := by decide +kernel
theorem dX10_init_183 : decode cX10_init 183 = .ok (.aload_n 0, 1) := by decide +kernel
theorem dX10_init_184 : decode cX10_init 184 = .ok (.sipush 720, 3) := by decide +kernel
theorem dX10_init_187 : decode cX10_init 187 = .ok (.newarray .long, 2) := by decide +kernel
theorem dX10_init_189 : decode cX10_init 189 = .ok (.putfield 78, 3) := by decide +kernel
theorem dX10_init_192 : decode cX10_init 192 = .ok (.aload_n 0, 1) := by decide +kernel
theorem dX10_init_193 : decode cX10_init 193 = .ok (.iconst 0, 1) := by decide +kernel
theorem dX10_init_194 : decode cX10_init 194 = .ok (.invokevirtual 81, 3) := by decide +kernel
theorem dX10_init_197 : decode cX10_init 197 = .ok (.aload_n 0, 1) := by decide +kernel
theorem dX10_init_198 : decode cX10_init 198 = .ok (.getfield 13, 3) := by decide +kernel
theorem dX10_init_201 : decode cX10_init 201 = .ok (.iconst 0, 1) := by decide +kernel
theorem dX10_init_202 : decode cX10_init 202 = .ok (.iconst 2, 1) := by decide +kernel
theorem dX10_init_203 : decode cX10_init 203 = .ok (.iastore, 1) := by decide +kernel
theorem dX10_init_204 : decode cX10_init 204 = .ok (.aload_n 0, 1) := by decide +kernel
theorem dX10_init_205 : decode cX10_init 205 = .ok (.getfield 16, 3) := by decide +kernel
theorem dX10_init_208 : decode cX10_init 208 = .ok (.iconst 0, 1) := by decide +kernel
theorem dX10_init_209 : decode cX10_init 209 = .ok (.iconst 1, 1) := by decide +kernel
theorem dX10_init_210 : decode cX10_init 210 = .ok (.iastore, 1) := by decide +kernel
theorem dX10_init_211 : decode cX10_init 211 = .ok (.aload_n 0, 1) := by decide +kernel
theorem dX10_init_212 : decode cX10_init 212 = .ok (.getfield 19, 3) := by decide +kernel
theorem dX10_init_215 : decode cX10_init 215 = .ok (.iconst 0, 1) := by decide +kernel
theorem dX10_init_216 : decode cX10_init 216 = .ok (.iconst 5, 1) := by decide +kernel
theorem dX10_init_217 : decode cX10_init 217 = .ok (.iastore, 1) := by decide +kernel
theorem dX10_init_218 : decode cX10_init 218 = .ok (.aload_n 0, 1) := by decide +kernel
theorem dX10_init_219 : decode cX10_init 219 = .ok (.getfield 19, 3) := by decide +kernel
theorem dX10_init_222 : decode cX10_init 222 = .ok (.iconst 1, 1) := by decide +kernel
theorem dX10_init_223 : decode cX10_init 223 = .ok (.iconst 5, 1) := by decide +kernel
theorem dX10_init_224 : decode cX10_init 224 = .ok (.iastore, 1) := by decide +kernel
theorem dX10_init_225 : decode cX10_init 225 = .ok (.aload_n 0, 1) := by decide +kernel
theorem dX10_init_226 : decode cX10_init 226 = .ok (.invokevirtual 85, 3) := by decide +kernel
theorem dX10_init_229 : decode cX10_init 229 = .ok (.return_, 1) := by decide +kernel
theorem dX10_in_0 : decode cX10_in 0 = .ok (.lload_n 0, 1) := by decide +kernel
theorem dX10_in_1 : decode cX10_in 1 = .ok (.lload_n 2, 1) := by decide +kernel
theorem dX10_in_2 : decode cX10_in 2 = .ok (.lcmp, 1) := by decide +kernel
theorem dX10_in_3 : decode cX10_in 3 = .ok (.ifCond .lt 14, 3) := by decide +kernel
theorem dX10_in_6 : decode cX10_in 6 = .ok (.lload_n 0, 1) := by decide +kernel
theorem dX10_in_7 : decode cX10_in 7 = .ok (.lload 4, 2) := by decide +kernel
theorem dX10_in_9 : decode cX10_in 9 = .ok (.lcmp, 1) := by decide +kernel
theorem dX10_in_10 : decode cX10_in 10 = .ok (.ifCond .gt 7, 3) := by decide +kernel
theorem dX10_in_13 : decode cX10_in 13 = .ok (.iconst 1, 1) := by decide +kernel
theorem dX10_in_14 : decode cX10_in 14 = .ok (.goto 4, 3) := by decide +kernel
theorem dX10_in_17 : decode cX10_in 17 = .ok (.iconst 0, 1) := by decide +kernel
theorem dX10_in_18 : decode cX10_in 18 = .ok (.ireturn, 1) := by decide +kernel
theorem dX10_noHouses_0 : decode cX10_noHouses 0 = .ok (.aload_n 0, 1) := by decide +kernel
theorem dX10_noHouses_1 : decode cX10_noHouses 1 = .ok (.getfield 13, 3) := by decide +kernel
theorem dX10_noHouses_4 : decode cX10_noHouses 4 = .ok (.iload_n 1, 1) := by decide +kernel
theorem dX10_noHouses_5 : decode cX10_noHouses 5 = .ok (.iconst 0, 1) := by decide +kernel
theorem dX10_noHouses_6 : decode cX10_noHouses 6 = .ok (.iastore, 1) := by decide +kernel
theorem dX10_noHouses_7 : decode cX10_noHouses 7 = .ok (.aload_n 0, 1) := by decide +kernel
theorem dX10_noHouses_8 : decode cX10_noHouses 8 = .ok (.getfield 28, 3) := by decide +kernel
theorem dX10_noHouses_11 : decode cX10_noHouses 11 = .ok (.iload_n 1, 1) := by decide +kernel
theorem dX10_noHouses_12 : decode cX10_noHouses 12 = .ok (.iconst 0, 1) := by decide +kernel
theorem dX10_noHouses_13 : decode cX10_noHouses 13 = .ok (.iastore, 1) := by decide +kernel
theorem dX10_noHouses_14 : decode cX10_noHouses 14 = .ok (.iconst 0, 1) := by decide +kernel
theorem dX10_noHouses_15 : decode cX10_noHouses 15 = .ok (.istore_n 2, 1) := by decide +kernel
theorem dX10_noHouses_16 : decode cX10_noHouses 16 = .ok (.iload_n 2, 1) := by decide +kernel
theorem dX10_noHouses_17 : decode cX10_noHouses 17 = .ok (.bipush 36, 2) := by decide +kernel
theorem dX10_noHouses_19 : decode cX10_noHouses 19 = .ok (.if_icmp .ge 22, 3) := by decide +kernel
theorem dX10_noHouses_22 : decode cX10_noHouses 22 = .ok (.aload_n 0, 1) := by decide +kernel
theorem dX10_noHouses_23 : decode cX10_noHouses 23 = .ok (.getfield 25, 3) := by decide +kernel
theorem dX10_noHouses_26 : decode cX10_noHouses 26 = .ok (.bipush 36, 2) := by decide +kernel
theorem dX10_noHouses_28 : decode cX10_noHouses 28 = .ok (.iload_n 1, 1) := by decide +kernel
theorem dX10_noHouses_29 : decode cX10_noHouses 29 = .ok (.imul, 1) := by decide +kernel
theorem dX10_noHouses_30 : decode cX10_noHouses 30 = .ok (.iload_n 2, 1) := by decide +kernel
theorem dX10_noHouses_31 : decode cX10_noHouses 31 = .ok (.iadd, 1) := by decide +kernel
theorem dX10_noHouses_32 : decode cX10_noHouses 32 = .ok (.bipush 50, 2) := by decide +kernel
theorem dX10_noHouses_34 : decode cX10_noHouses 34 = .ok (.iastore, 1) := by decide +kernel
theorem dX10_noHouses_35 : decode cX10_noHouses 35 = .ok (.iinc 2 1, 3) := by decide +kernel
theorem dX10_noHouses_38 : decode cX10_noHouses 38 = .ok (.goto (-22), 3) := by decide +kernel
theorem dX10_noHouses_41 : decode cX10_noHouses 41 = .ok (.return_, 1) := by decide +kernel
theorem dX10_write_0 : decode cX10_write 0 = .ok (.iload_n 1, 1) := by decide +kernel
theorem dX10_write_1 : decode cX10_write 1 = .ok (.i2l, 1) := by decide +kernel
theorem dX10_write_2 : decode cX10_write 2 = .ok (.lconst 1, 1) := by decide +kernel
theorem dX10_write_3 : decode cX10_write 3 = .ok (.ldc2_w 88, 3) := by decide +kernel
theorem dX10_write_6 : decode cX10_write 6 = .ok (.invokestatic 90, 3) := by decide +kernel
theorem dX10_write_9 : decode cX10_write 9 = .ok (.ifCond .ne 5, 3) := by decide +kernel
theorem dX10_write_12 : decode cX10_write 12 = .ok (.iconst (-1), 1) := by decide +kernel
theorem dX10_write_13 : decode cX10_write 13 = .ok (.ireturn, 1) := by decide +kernel
theorem dX10_write_14 : decode cX10_write 14 = .ok (.aload_n 0, 1) := by decide +kernel
theorem dX10_write_15 : decode cX10_write 15 = .ok (.getfield 94, 3) := by decide +kernel
theorem dX10_write_18 : decode cX10_write 18 = .ok (.iload_n 1, 1) := by decide +kernel
theorem dX10_write_19 : decode cX10_write 19 = .ok (.iadd, 1) := by decide +kernel
theorem dX10_write_20 : decode cX10_write 20 = .ok (.sipush 300, 3) := by decide +kernel
theorem dX10_write_23 : decode cX10_write 23 = .ok (.if_icmp .le 6, 3) := by decide +kernel
theorem dX10_write_26 : decode cX10_write 26 = .ok (.bipush (-3), 2) := by decide +kernel
theorem dX10_write_28 : decode cX10_write 28 = .ok (.ireturn, 1) := by decide +kernel
theorem dX10_write_29 : decode cX10_write 29 = .ok (.iload_n 1, 1) := by decide +kernel
theorem dX10_write_30 : decode cX10_write 30 = .ok (.iconst 1, 1) := by decide +kernel
theorem dX10_write_31 : decode cX10_write 31 = .ok (.isub, 1) := by decide +kernel
theorem dX10_write_32 : decode cX10_write 32 = .ok (.istore 4, 2) := by decide +kernel
theorem dX10_write_34 : decode cX10_write 34 = .ok (.iload 4, 2) := by decide +kernel
theorem dX10_write_36 : decode cX10_write 36 = .ok (.ifCond .lt 40, 3) := by decide +kernel
theorem dX10_write_39 : decode cX10_write 39 = .ok (.aload_n 0, 1) := by decide +kernel
theorem dX10_write_40 : decode cX10_write 40 = .ok (.getfield 7, 3) := by decide +kernel
theorem dX10_write_43 : decode cX10_write 43 = .ok (.aload_n 0, 1) := by decide +kernel
theorem dX10_write_44 : decode cX10_write 44 = .ok (.getfield 94, 3) := by decide +kernel
theorem dX10_write_47 : decode cX10_write 47 = .ok (.lload_n 2, 1) := by decide +kernel
theorem dX10_write_48 : decode cX10_write 48 = .ok (.bipush 8, 2) := by decide +kernel
theorem dX10_write_50 : decode cX10_write 50 = .ok (.iload 4, 2) := by decide +kernel
theorem dX10_write_52 : decode cX10_write 52 = .ok (.imul, 1) := by decide +kernel
theorem dX10_write_53 : decode cX10_write 53 = .ok (.lshr, 1) := by decide +kernel
theorem dX10_write_54 : decode cX10_write 54 = .ok (.ldc2_w 98, 3) := by decide +kernel
theorem dX10_write_57 : decode cX10_write 57 = .ok (.land, 1) := by decide +kernel
theorem dX10_write_58 : decode cX10_write 58 = .ok (.l2i, 1) := by decide +kernel
theorem dX10_write_59 : decode cX10_write 59 = .ok (.iastore, 1) := by decide +kernel
theorem dX10_write_60 : decode cX10_write 60 = .ok (.aload_n 0, 1) := by decide +kernel
theorem dX10_write_61 : decode cX10_write 61 = .ok (.dup, 1) := by decide +kernel
theorem dX10_write_62 : decode cX10_write 62 = .ok (.getfield 94, 3) := by decide +kernel
theorem dX10_write_65 : decode cX10_write 65 = .ok (.iconst 1, 1) := by decide +kernel
theorem dX10_write_66 : decode cX10_write 66 = .ok (.iadd, 1) := by decide +kernel
theorem dX10_write_67 : decode cX10_write 67 = .ok (.putfield 94, 3) := by decide +kernel
theorem dX10_write_70 : decode cX10_write 70 = .ok (.iinc 4 (-1), 3) := by decide +kernel
theorem dX10_write_73 : decode cX10_write 73 = .ok (.goto (-39), 3) := by decide +kernel
theorem dX10_write_76 : decode cX10_write 76 = .ok (.aload_n 0, 1) := by decide +kernel
theorem dX10_write_77 : decode cX10_write 77 = .ok (.getfield 94, 3) := by decide +kernel
theorem dX10_write_80 : decode cX10_write 80 = .ok (.ireturn, 1) := by decide +kernel
theorem dX10_wipe_0 : decode cX10_wipe 0 = .ok (.aload_n 0, 1) := by decide +kernel
theorem dX10_wipe_1 : decode cX10_wipe 1 = .ok (.getfield 94, 3) := by decide +kernel
theorem dX10_wipe_4 : decode cX10_wipe 4 = .ok (.istore_n 1, 1) := by decide +kernel
theorem dX10_wipe_5 : decode cX10_wipe 5 = .ok (.aload_n 0, 1) := by decide +kernel
theorem dX10_wipe_6 : decode cX10_wipe 6 = .ok (.iconst 0, 1) := by decide +kernel
theorem dX10_wipe_7 : decode cX10_wipe 7 = .ok (.putfield 94, 3) := by decide +kernel
theorem dX10_wipe_10 : decode cX10_wipe 10 = .ok (.iload_n 1, 1) := by decide +kernel
theorem dX10_wipe_11 : decode cX10_wipe 11 = .ok (.ireturn, 1) := by decide +kernel
theorem dX10_byteAt_0 : decode cX10_byteAt 0 = .ok (.iload_n 1, 1) := by decide +kernel
theorem dX10_byteAt_1 : decode cX10_byteAt 1 = .ok (.aload_n 0, 1) := by decide +kernel
theorem dX10_byteAt_2 : decode cX10_byteAt 2 = .ok (.getfield 94, 3) := by decide +kernel
theorem dX10_byteAt_5 : decode cX10_byteAt 5 = .ok (.if_icmp .ge 12, 3) := by decide +kernel
theorem dX10_byteAt_8 : decode cX10_byteAt 8 = .ok (.aload_n 0, 1) := by decide +kernel
theorem dX10_byteAt_9 : decode cX10_byteAt 9 = .ok (.getfield 7, 3) := by decide +kernel
theorem dX10_byteAt_12 : decode cX10_byteAt 12 = .ok (.iload_n 1, 1) := by decide +kernel
theorem dX10_byteAt_13 : decode cX10_byteAt 13 = .ok (.iaload, 1) := by decide +kernel
theorem dX10_byteAt_14 : decode cX10_byteAt 14 = .ok (.goto 4, 3) := by decide +kernel
theorem dX10_byteAt_17 : decode cX10_byteAt 17 = .ok (.iconst 0, 1) := by decide +kernel
theorem dX10_byteAt_18 : decode cX10_byteAt 18 = .ok (.ireturn, 1) := by decide +kernel
theorem dX10_figures_0 : decode cX10_figures 0 = .ok (.iconst 0, 1) := by decide +kernel
theorem dX10_figures_1 : decode cX10_figures 1 = .ok (.istore_n 2, 1) := by decide +kernel
theorem dX10_figures_2 : decode cX10_figures 2 = .ok (.iload_n 2, 1) := by decide +kernel
theorem dX10_figures_3 : decode cX10_figures 3 = .ok (.iload_n 1, 1) := by decide +kernel
theorem dX10_figures_4 : decode cX10_figures 4 = .ok (.if_icmp .ge 132, 3) := by decide +kernel
theorem dX10_figures_7 : decode cX10_figures 7 = .ok (.iconst 0, 1) := by decide +kernel
theorem dX10_figures_8 : decode cX10_figures 8 = .ok (.istore_n 3, 1) := by decide +kernel
theorem dX10_figures_9 : decode cX10_figures 9 = .ok (.iconst 0, 1) := by decide +kernel
theorem dX10_figures_10 : decode cX10_figures 10 = .ok (.istore 4, 2) := by decide +kernel
theorem dX10_figures_12 : decode cX10_figures 12 = .ok (.aload_n 0, 1) := by decide +kernel
theorem dX10_figures_13 : decode cX10_figures 13 = .ok (.aload_n 0, 1) := by decide +kernel
theorem dX10_figures_14 : decode cX10_figures 14 = .ok (.getfield 100, 3) := by decide +kernel
theorem dX10_figures_17 : decode cX10_figures 17 = .ok (.invokevirtual 103, 3) := by decide +kernel
theorem dX10_figures_20 : decode cX10_figures 20 = .ok (.i2l, 1) := by decide +kernel
theorem dX10_figures_21 : decode cX10_figures 21 = .ok (.ldc2_w 107, 3) := by decide +kernel
theorem dX10_figures_24 : decode cX10_figures 24 = .ok (.ldc2_w 109, 3) := by decide +kernel
theorem dX10_figures_27 : decode cX10_figures 27 = .ok (.invokestatic 90, 3) := by decide +kernel
theorem dX10_figures_30 : decode cX10_figures 30 = .ok (.ifCond .eq 43, 3) := by decide +kernel
theorem dX10_figures_33 : decode cX10_figures 33 = .ok (.iload_n 3, 1) := by decide +kernel
theorem dX10_figures_34 : decode cX10_figures 34 = .ok (.iconst 3, 1) := by decide +kernel
theorem dX10_figures_35 : decode cX10_figures 35 = .ok (.if_icmp .ge 38, 3) := by decide +kernel
theorem dX10_figures_38 : decode cX10_figures 38 = .ok (.bipush 10, 2) := by decide +kernel
theorem dX10_figures_40 : decode cX10_figures 40 = .ok (.iload 4, 2) := by decide +kernel
theorem dX10_figures_42 : decode cX10_figures 42 = .ok (.imul, 1) := by decide +kernel
theorem dX10_figures_43 : decode cX10_figures 43 = .ok (.aload_n 0, 1) := by decide +kernel
theorem dX10_figures_44 : decode cX10_figures 44 = .ok (.aload_n 0, 1) := by decide +kernel
theorem dX10_figures_45 : decode cX10_figures 45 = .ok (.getfield 100, 3) := by decide +kernel
theorem dX10_figures_48 : decode cX10_figures 48 = .ok (.invokevirtual 103, 3) := by decide +kernel
theorem dX10_figures_51 : decode cX10_figures 51 = .ok (.iadd, 1) := by decide +kernel
theorem dX10_figures_52 : decode cX10_figures 52 = .ok (.bipush 48, 2) := by decide +kernel
theorem dX10_figures_54 : decode cX10_figures 54 = .ok (.isub, 1) := by decide +kernel
theorem dX10_figures_55 : decode cX10_figures 55 = .ok (.istore 4, 2) := by decide +kernel
theorem dX10_figures_57 : decode cX10_figures 57 = .ok (.iinc 3 1, 3) := by decide +kernel
theorem dX10_figures_60 : decode cX10_figures 60 = .ok (.aload_n 0, 1) := by decide +kernel
theorem dX10_figures_61 : decode cX10_figures 61 = .ok (.dup, 1) := by decide +kernel
theorem dX10_figures_62 : decode cX10_figures 62 = .ok (.getfield 100, 3) := by decide +kernel
theorem dX10_figures_65 : decode cX10_figures 65 = .ok (.iconst 1, 1) := by decide +kernel
theorem dX10_figures_66 : decode cX10_figures 66 = .ok (.iadd, 1) := by decide +kernel
theorem dX10_figures_67 : decode cX10_figures 67 = .ok (.putfield 100, 3) := by decide +kernel
theorem dX10_figures_70 : decode cX10_figures 70 = .ok (.goto (-58), 3) := by decide +kernel
theorem dX10_figures_73 : decode cX10_figures 73 = .ok (.iload_n 3, 1) := by decide +kernel
theorem dX10_figures_74 : decode cX10_figures 74 = .ok (.i2l, 1) := by decide +kernel
theorem dX10_figures_75 : decode cX10_figures 75 = .ok (.lconst 1, 1) := by decide +kernel
theorem dX10_figures_76 : decode cX10_figures 76 = .ok (.ldc2_w 111, 3) := by decide +kernel
theorem dX10_figures_79 : decode cX10_figures 79 = .ok (.invokestatic 90, 3) := by decide +kernel
theorem dX10_figures_82 : decode cX10_figures 82 = .ok (.ifCond .eq 28, 3) := by decide +kernel
theorem dX10_figures_85 : decode cX10_figures 85 = .ok (.aload_n 0, 1) := by decide +kernel
theorem dX10_figures_86 : decode cX10_figures 86 = .ok (.aload_n 0, 1) := by decide +kernel
theorem dX10_figures_87 : decode cX10_figures 87 = .ok (.getfield 100, 3) := by decide +kernel
theorem dX10_figures_90 : decode cX10_figures 90 = .ok (.invokevirtual 103, 3) := by decide +kernel
theorem dX10_figures_93 : decode cX10_figures 93 = .ok (.iload_n 2, 1) := by decide +kernel
theorem dX10_figures_94 : decode cX10_figures 94 = .ok (.iload_n 1, 1) := by decide +kernel
theorem dX10_figures_95 : decode cX10_figures 95 = .ok (.iconst 1, 1) := by decide +kernel
theorem dX10_figures_96 : decode cX10_figures 96 = .ok (.isub, 1) := by decide +kernel
theorem dX10_figures_97 : decode cX10_figures 97 = .ok (.if_icmp .ge 8, 3) := by decide +kernel
theorem dX10_figures_100 : decode cX10_figures 100 = .ok (.bipush 44, 2) := by decide +kernel
theorem dX10_figures_102 : decode cX10_figures 102 = .ok (.goto 5, 3) := by decide +kernel
theorem dX10_figures_105 : decode cX10_figures 105 = .ok (.bipush 59, 2) := by decide +kernel
theorem dX10_figures_107 : decode cX10_figures 107 = .ok (.if_icmp .eq 5, 3) := by decide +kernel
theorem dX10_figures_110 : decode cX10_figures 110 = .ok (.iconst 0, 1) := by decide +kernel
theorem dX10_figures_111 : decode cX10_figures 111 = .ok (.ireturn, 1) := by decide +kernel
theorem dX10_figures_112 : decode cX10_figures 112 = .ok (.aload_n 0, 1) := by decide +kernel
theorem dX10_figures_113 : decode cX10_figures 113 = .ok (.getfield 52, 3) := by decide +kernel
theorem dX10_figures_116 : decode cX10_figures 116 = .ok (.iload_n 2, 1) := by decide +kernel
theorem dX10_figures_117 : decode cX10_figures 117 = .ok (.iload 4, 2) := by decide +kernel
theorem dX10_figures_119 : decode cX10_figures 119 = .ok (.iastore, 1) := by decide +kernel
theorem dX10_figures_120 : decode cX10_figures 120 = .ok (.aload_n 0, 1) := by decide +kernel
theorem dX10_figures_121 : decode cX10_figures 121 = .ok (.dup, 1) := by decide +kernel
theorem dX10_figures_122 : decode cX10_figures 122 = .ok (.getfield 100, 3) := by decide +kernel
theorem dX10_figures_125 : decode cX10_figures 125 = .ok (.iconst 1, 1) := by decide +kernel
theorem dX10_figures_126 : decode cX10_figures 126 = .ok (.iadd, 1) := by decide +kernel
theorem dX10_figures_127 : decode cX10_figures 127 = .ok (.putfield 100, 3) := by decide +kernel
theorem dX10_figures_130 : decode cX10_figures 130 = .ok (.iinc 2 1, 3) := by decide +kernel
theorem dX10_figures_133 : decode cX10_figures 133 = .ok (.goto (-131), 3) := by decide +kernel
theorem dX10_figures_136 : decode cX10_figures 136 = .ok (.iconst 1, 1) := by decide +kernel
theorem dX10_figures_137 : decode cX10_figures 137 = .ok (.ireturn, 1) := by decide +kernel
theorem dX10_item_0 : decode cX10_item 0 = .ok (.aload_n 0, 1) := by decide +kernel
theorem dX10_item_1 : decode cX10_item 1 = .ok (.aload_n 0, 1) := by decide +kernel
theorem dX10_item_2 : decode cX10_item 2 = .ok (.getfield 100, 3) := by decide +kernel
theorem dX10_item_5 : decode cX10_item 5 = .ok (.invokevirtual 103, 3) := by decide +kernel
theorem dX10_item_8 : decode cX10_item 8 = .ok (.istore_n 1, 1) := by decide +kernel
theorem dX10_item_9 : decode cX10_item 9 = .ok (.aload_n 0, 1) := by decide +kernel
theorem dX10_item_10 : decode cX10_item 10 = .ok (.dup, 1) := by decide +kernel
theorem dX10_item_11 : decode cX10_item 11 = .ok (.getfield 100, 3) := by decide +kernel
theorem dX10_item_14 : decode cX10_item 14 = .ok (.iconst 1, 1) := by decide +kernel
theorem dX10_item_15 : decode cX10_item 15 = .ok (.iadd, 1) := by decide +kernel
theorem dX10_item_16 : decode cX10_item 16 = .ok (.putfield 100, 3) := by decide +kernel
theorem dX10_item_19 : decode cX10_item 19 = .ok (.iload_n 1, 1) := by decide +kernel
theorem dX10_item_20 : decode cX10_item 20 = .ok (.lookupswitch 331 #[(108, 160), (112, 36), (114, 297)], 36) := by decide +kernel
theorem dX10_item_56 : decode cX10_item 56 = .ok (.aload_n 0, 1) := by decide +kernel
theorem dX10_item_57 : decode cX10_item 57 = .ok (.iconst 3, 1) := by decide +kernel
theorem dX10_item_58 : decode cX10_item 58 = .ok (.invokevirtual 113, 3) := by decide +kernel
theorem dX10_item_61 : decode cX10_item 61 = .ok (.ifCond .eq 45, 3) := by decide +kernel
theorem dX10_item_64 : decode cX10_item 64 = .ok (.aload_n 0, 1) := by decide +kernel
theorem dX10_item_65 : decode cX10_item 65 = .ok (.getfield 13, 3) := by decide +kernel
theorem dX10_item_68 : decode cX10_item 68 = .ok (.iconst 1, 1) := by decide +kernel
theorem dX10_item_69 : decode cX10_item 69 = .ok (.iaload, 1) := by decide +kernel
theorem dX10_item_70 : decode cX10_item 70 = .ok (.bipush 6, 2) := by decide +kernel
theorem dX10_item_72 : decode cX10_item 72 = .ok (.if_icmp .eq 34, 3) := by decide +kernel
theorem dX10_item_75 : decode cX10_item 75 = .ok (.aload_n 0, 1) := by decide +kernel
theorem dX10_item_76 : decode cX10_item 76 = .ok (.getfield 52, 3) := by decide +kernel
theorem dX10_item_79 : decode cX10_item 79 = .ok (.iconst 0, 1) := by decide +kernel
theorem dX10_item_80 : decode cX10_item 80 = .ok (.iaload, 1) := by decide +kernel
theorem dX10_item_81 : decode cX10_item 81 = .ok (.iconst 5, 1) := by decide +kernel
theorem dX10_item_82 : decode cX10_item 82 = .ok (.if_icmp .gt 24, 3) := by decide +kernel
theorem dX10_item_85 : decode cX10_item 85 = .ok (.aload_n 0, 1) := by decide +kernel
theorem dX10_item_86 : decode cX10_item 86 = .ok (.getfield 52, 3) := by decide +kernel
theorem dX10_item_89 : decode cX10_item 89 = .ok (.iconst 1, 1) := by decide +kernel
theorem dX10_item_90 : decode cX10_item 90 = .ok (.iaload, 1) := by decide +kernel
theorem dX10_item_91 : decode cX10_item 91 = .ok (.bipush 20, 2) := by decide +kernel
theorem dX10_item_93 : decode cX10_item 93 = .ok (.if_icmp .gt 13, 3) := by decide +kernel
theorem dX10_item_96 : decode cX10_item 96 = .ok (.aload_n 0, 1) := by decide +kernel
theorem dX10_item_97 : decode cX10_item 97 = .ok (.getfield 52, 3) := by decide +kernel
theorem dX10_item_100 : decode cX10_item 100 = .ok (.iconst 2, 1) := by decide +kernel
theorem dX10_item_101 : decode cX10_item 101 = .ok (.iaload, 1) := by decide +kernel
theorem dX10_item_102 : decode cX10_item 102 = .ok (.iconst 4, 1) := by decide +kernel
theorem dX10_item_103 : decode cX10_item 103 = .ok (.if_icmp .le 5, 3) := by decide +kernel
theorem dX10_item_106 : decode cX10_item 106 = .ok (.iconst 0, 1) := by decide +kernel
theorem dX10_item_107 : decode cX10_item 107 = .ok (.ireturn, 1) := by decide +kernel
theorem dX10_item_108 : decode cX10_item 108 = .ok (.aload_n 0, 1) := by decide +kernel
theorem dX10_item_109 : decode cX10_item 109 = .ok (.getfield 16, 3) := by decide +kernel
theorem dX10_item_112 : decode cX10_item 112 = .ok (.bipush 6, 2) := by decide +kernel
theorem dX10_item_114 : decode cX10_item 114 = .ok (.aload_n 0, 1) := by decide +kernel
theorem dX10_item_115 : decode cX10_item 115 = .ok (.getfield 13, 3) := by decide +kernel
theorem dX10_item_118 : decode cX10_item 118 = .ok (.iconst 1, 1) := by decide +kernel
theorem dX10_item_119 : decode cX10_item 119 = .ok (.iaload, 1) := by decide +kernel
theorem dX10_item_120 : decode cX10_item 120 = .ok (.iadd, 1) := by decide +kernel
theorem dX10_item_121 : decode cX10_item 121 = .ok (.aload_n 0, 1) := by decide +kernel
theorem dX10_item_122 : decode cX10_item 122 = .ok (.getfield 52, 3) := by decide +kernel
theorem dX10_item_125 : decode cX10_item 125 = .ok (.iconst 0, 1) := by decide +kernel
theorem dX10_item_126 : decode cX10_item 126 = .ok (.iaload, 1) := by decide +kernel
theorem dX10_item_127 : decode cX10_item 127 = .ok (.iastore, 1) := by decide +kernel
theorem dX10_item_128 : decode cX10_item 128 = .ok (.aload_n 0, 1) := by decide +kernel
theorem dX10_item_129 : decode cX10_item 129 = .ok (.getfield 19, 3) := by decide +kernel
theorem dX10_item_132 : decode cX10_item 132 = .ok (.bipush 6, 2) := by decide +kernel
theorem dX10_item_134 : decode cX10_item 134 = .ok (.aload_n 0, 1) := by decide +kernel
theorem dX10_item_135 : decode cX10_item 135 = .ok (.getfield 13, 3) := by decide +kernel
theorem dX10_item_138 : decode cX10_item 138 = .ok (.iconst 1, 1) := by decide +kernel
theorem dX10_item_139 : decode cX10_item 139 = .ok (.iaload, 1) := by decide +kernel
theorem dX10_item_140 : decode cX10_item 140 = .ok (.iadd, 1) := by decide +kernel
theorem dX10_item_141 : decode cX10_item 141 = .ok (.aload_n 0, 1) := by decide +kernel
theorem dX10_item_142 : decode cX10_item 142 = .ok (.getfield 52, 3) := by decide +kernel
theorem dX10_item_145 : decode cX10_item 145 = .ok (.iconst 1, 1) := by decide +kernel
theorem dX10_item_146 : decode cX10_item 146 = .ok (.iaload, 1) := by decide +kernel
theorem dX10_item_147 : decode cX10_item 147 = .ok (.iastore, 1) := by decide +kernel
theorem dX10_item_148 : decode cX10_item 148 = .ok (.aload_n 0, 1) := by decide +kernel
theorem dX10_item_149 : decode cX10_item 149 = .ok (.getfield 22, 3) := by decide +kernel
theorem dX10_item_152 : decode cX10_item 152 = .ok (.bipush 6, 2) := by decide +kernel
theorem dX10_item_154 : decode cX10_item 154 = .ok (.aload_n 0, 1) := by decide +kernel
theorem dX10_item_155 : decode cX10_item 155 = .ok (.getfield 13, 3) := by decide +kernel
theorem dX10_item_158 : decode cX10_item 158 = .ok (.iconst 1, 1) := by decide +kernel
theorem dX10_item_159 : decode cX10_item 159 = .ok (.iaload, 1) := by decide +kernel
theorem dX10_item_160 : decode cX10_item 160 = .ok (.iadd, 1) := by decide +kernel
theorem dX10_item_161 : decode cX10_item 161 = .ok (.aload_n 0, 1) := by decide +kernel
theorem dX10_item_162 : decode cX10_item 162 = .ok (.getfield 52, 3) := by decide +kernel
theorem dX10_item_165 : decode cX10_item 165 = .ok (.iconst 2, 1) := by decide +kernel
theorem dX10_item_166 : decode cX10_item 166 = .ok (.iaload, 1) := by decide +kernel
theorem dX10_item_167 : decode cX10_item 167 = .ok (.iastore, 1) := by decide +kernel
theorem dX10_item_168 : decode cX10_item 168 = .ok (.aload_n 0, 1) := by decide +kernel
theorem dX10_item_169 : decode cX10_item 169 = .ok (.getfield 13, 3) := by decide +kernel
theorem dX10_item_172 : decode cX10_item 172 = .ok (.iconst 1, 1) := by decide +kernel
theorem dX10_item_173 : decode cX10_item 173 = .ok (.dup2, 1) := by decide +kernel
theorem dX10_item_174 : decode cX10_item 174 = .ok (.iaload, 1) := by decide +kernel
theorem dX10_item_175 : decode cX10_item 175 = .ok (.iconst 1, 1) := by decide +kernel
theorem dX10_item_176 : decode cX10_item 176 = .ok (.iadd, 1) := by decide +kernel
theorem dX10_item_177 : decode cX10_item 177 = .ok (.iastore, 1) := by decide +kernel
theorem dX10_item_178 : decode cX10_item 178 = .ok (.iconst 1, 1) := by decide +kernel
theorem dX10_item_179 : decode cX10_item 179 = .ok (.ireturn, 1) := by decide +kernel
theorem dX10_item_180 : decode cX10_item 180 = .ok (.aload_n 0, 1) := by decide +kernel
theorem dX10_item_181 : decode cX10_item 181 = .ok (.iconst 3, 1) := by decide +kernel
theorem dX10_item_182 : decode cX10_item 182 = .ok (.invokevirtual 113, 3) := by decide +kernel
theorem dX10_item_185 : decode cX10_item 185 = .ok (.ifCond .eq 38, 3) := by decide +kernel
theorem dX10_item_188 : decode cX10_item 188 = .ok (.aload_n 0, 1) := by decide +kernel
theorem dX10_item_189 : decode cX10_item 189 = .ok (.getfield 52, 3) := by decide +kernel
theorem dX10_item_192 : decode cX10_item 192 = .ok (.iconst 0, 1) := by decide +kernel
theorem dX10_item_193 : decode cX10_item 193 = .ok (.iaload, 1) := by decide +kernel
theorem dX10_item_194 : decode cX10_item 194 = .ok (.iconst 5, 1) := by decide +kernel
theorem dX10_item_195 : decode cX10_item 195 = .ok (.if_icmp .gt 28, 3) := by decide +kernel
theorem dX10_item_198 : decode cX10_item 198 = .ok (.aload_n 0, 1) := by decide +kernel
theorem dX10_item_199 : decode cX10_item 199 = .ok (.getfield 52, 3) := by decide +kernel
theorem dX10_item_202 : decode cX10_item 202 = .ok (.iconst 1, 1) := by decide +kernel
theorem dX10_item_203 : decode cX10_item 203 = .ok (.iaload, 1) := by decide +kernel
theorem dX10_item_204 : decode cX10_item 204 = .ok (.iconst 5, 1) := by decide +kernel
theorem dX10_item_205 : decode cX10_item 205 = .ok (.if_icmp .gt 18, 3) := by decide +kernel
theorem dX10_item_208 : decode cX10_item 208 = .ok (.aload_n 0, 1) := by decide +kernel
theorem dX10_item_209 : decode cX10_item 209 = .ok (.getfield 52, 3) := by decide +kernel
theorem dX10_item_212 : decode cX10_item 212 = .ok (.iconst 0, 1) := by decide +kernel
theorem dX10_item_213 : decode cX10_item 213 = .ok (.iaload, 1) := by decide +kernel
theorem dX10_item_214 : decode cX10_item 214 = .ok (.aload_n 0, 1) := by decide +kernel
theorem dX10_item_215 : decode cX10_item 215 = .ok (.getfield 52, 3) := by decide +kernel
theorem dX10_item_218 : decode cX10_item 218 = .ok (.iconst 1, 1) := by decide +kernel
theorem dX10_item_219 : decode cX10_item 219 = .ok (.iaload, 1) := by decide +kernel
theorem dX10_item_220 : decode cX10_item 220 = .ok (.if_icmp .ne 5, 3) := by decide +kernel
theorem dX10_item_223 : decode cX10_item 223 = .ok (.iconst 0, 1) := by decide +kernel
theorem dX10_item_224 : decode cX10_item 224 = .ok (.ireturn, 1) := by decide +kernel
theorem dX10_item_225 : decode cX10_item 225 = .ok (.aload_n 0, 1) := by decide +kernel
theorem dX10_item_226 : decode cX10_item 226 = .ok (.getfield 25, 3) := by decide +kernel
theorem dX10_item_229 : decode cX10_item 229 = .ok (.bipush 36, 2) := by decide +kernel
theorem dX10_item_231 : decode cX10_item 231 = .ok (.bipush 6, 2) := by decide +kernel
theorem dX10_item_233 : decode cX10_item 233 = .ok (.aload_n 0, 1) := by decide +kernel
theorem dX10_item_234 : decode cX10_item 234 = .ok (.getfield 52, 3) := by decide +kernel
theorem dX10_item_237 : decode cX10_item 237 = .ok (.iconst 0, 1) := by decide +kernel
theorem dX10_item_238 : decode cX10_item 238 = .ok (.iaload, 1) := by decide +kernel
theorem dX10_item_239 : decode cX10_item 239 = .ok (.imul, 1) := by decide +kernel
theorem dX10_item_240 : decode cX10_item 240 = .ok (.iadd, 1) := by decide +kernel
theorem dX10_item_241 : decode cX10_item 241 = .ok (.aload_n 0, 1) := by decide +kernel
theorem dX10_item_242 : decode cX10_item 242 = .ok (.getfield 52, 3) := by decide +kernel
theorem dX10_item_245 : decode cX10_item 245 = .ok (.iconst 1, 1) := by decide +kernel
theorem dX10_item_246 : decode cX10_item 246 = .ok (.iaload, 1) := by decide +kernel
theorem dX10_item_247 : decode cX10_item 247 = .ok (.iadd, 1) := by decide +kernel
theorem dX10_item_248 : decode cX10_item 248 = .ok (.aload_n 0, 1) := by decide +kernel
theorem dX10_item_249 : decode cX10_item 249 = .ok (.getfield 52, 3) := by decide +kernel
theorem dX10_item_252 : decode cX10_item 252 = .ok (.iconst 2, 1) := by decide +kernel
theorem dX10_item_253 : decode cX10_item 253 = .ok (.iaload, 1) := by decide +kernel
theorem dX10_item_254 : decode cX10_item 254 = .ok (.iastore, 1) := by decide +kernel
theorem dX10_item_255 : decode cX10_item 255 = .ok (.aload_n 0, 1) := by decide +kernel
theorem dX10_item_256 : decode cX10_item 256 = .ok (.aload_n 0, 1) := by decide +kernel
theorem dX10_item_257 : decode cX10_item 257 = .ok (.getfield 52, 3) := by decide +kernel
theorem dX10_item_260 : decode cX10_item 260 = .ok (.iconst 0, 1) := by decide +kernel
theorem dX10_item_261 : decode cX10_item 261 = .ok (.iaload, 1) := by decide +kernel
theorem dX10_item_262 : decode cX10_item 262 = .ok (.aload_n 0, 1) := by decide +kernel
theorem dX10_item_263 : decode cX10_item 263 = .ok (.getfield 117, 3) := by decide +kernel
theorem dX10_item_266 : decode cX10_item 266 = .ok (.if_icmp .le 12, 3) := by decide +kernel
theorem dX10_item_269 : decode cX10_item 269 = .ok (.aload_n 0, 1) := by decide +kernel
theorem dX10_item_270 : decode cX10_item 270 = .ok (.getfield 52, 3) := by decide +kernel
theorem dX10_item_273 : decode cX10_item 273 = .ok (.iconst 0, 1) := by decide +kernel
theorem dX10_item_274 : decode cX10_item 274 = .ok (.iaload, 1) := by decide +kernel
theorem dX10_item_275 : decode cX10_item 275 = .ok (.goto 7, 3) := by decide +kernel
theorem dX10_item_278 : decode cX10_item 278 = .ok (.aload_n 0, 1) := by decide +kernel
theorem dX10_item_279 : decode cX10_item 279 = .ok (.getfield 117, 3) := by decide +kernel
theorem dX10_item_282 : decode cX10_item 282 = .ok (.putfield 117, 3) := by decide +kernel
theorem dX10_item_285 : decode cX10_item 285 = .ok (.aload_n 0, 1) := by decide +kernel
theorem dX10_item_286 : decode cX10_item 286 = .ok (.aload_n 0, 1) := by decide +kernel
theorem dX10_item_287 : decode cX10_item 287 = .ok (.getfield 52, 3) := by decide +kernel
theorem dX10_item_290 : decode cX10_item 290 = .ok (.iconst 1, 1) := by decide +kernel
theorem dX10_item_291 : decode cX10_item 291 = .ok (.iaload, 1) := by decide +kernel
theorem dX10_item_292 : decode cX10_item 292 = .ok (.aload_n 0, 1) := by decide +kernel
theorem dX10_item_293 : decode cX10_item 293 = .ok (.getfield 117, 3) := by decide +kernel
theorem dX10_item_296 : decode cX10_item 296 = .ok (.if_icmp .le 12, 3) := by decide +kernel
theorem dX10_item_299 : decode cX10_item 299 = .ok (.aload_n 0, 1) := by decide +kernel
theorem dX10_item_300 : decode cX10_item 300 = .ok (.getfield 52, 3) := by decide +kernel
theorem dX10_item_303 : decode cX10_item 303 = .ok (.iconst 1, 1) := by decide +kernel
theorem dX10_item_304 : decode cX10_item 304 = .ok (.iaload, 1) := by decide +kernel
theorem dX10_item_305 : decode cX10_item 305 = .ok (.goto 7, 3) := by decide +kernel
theorem dX10_item_308 : decode cX10_item 308 = .ok (.aload_n 0, 1) := by decide +kernel
theorem dX10_item_309 : decode cX10_item 309 = .ok (.getfield 117, 3) := by decide +kernel
theorem dX10_item_312 : decode cX10_item 312 = .ok (.putfield 117, 3) := by decide +kernel
theorem dX10_item_315 : decode cX10_item 315 = .ok (.iconst 1, 1) := by decide +kernel
theorem dX10_item_316 : decode cX10_item 316 = .ok (.ireturn, 1) := by decide +kernel
theorem dX10_item_317 : decode cX10_item 317 = .ok (.aload_n 0, 1) := by decide +kernel
theorem dX10_item_318 : decode cX10_item 318 = .ok (.iconst 1, 1) := by decide +kernel
theorem dX10_item_319 : decode cX10_item 319 = .ok (.invokevirtual 113, 3) := by decide +kernel
theorem dX10_item_322 : decode cX10_item 322 = .ok (.ifCond .eq 13, 3) := by decide +kernel
theorem dX10_item_325 : decode cX10_item 325 = .ok (.aload_n 0, 1) := by decide +kernel
theorem dX10_item_326 : decode cX10_item 326 = .ok (.getfield 52, 3) := by decide +kernel
theorem dX10_item_329 : decode cX10_item 329 = .ok (.iconst 0, 1) := by decide +kernel
theorem dX10_item_330 : decode cX10_item 330 = .ok (.iaload, 1) := by decide +kernel
theorem dX10_item_331 : decode cX10_item 331 = .ok (.iconst 1, 1) := by decide +kernel
theorem dX10_item_332 : decode cX10_item 332 = .ok (.if_icmp .le 5, 3) := by decide +kernel
theorem dX10_item_335 : decode cX10_item 335 = .ok (.iconst 0, 1) := by decide +kernel
theorem dX10_item_336 : decode cX10_item 336 = .ok (.ireturn, 1) := by decide +kernel
theorem dX10_item_337 : decode cX10_item 337 = .ok (.aload_n 0, 1) := by decide +kernel
theorem dX10_item_338 : decode cX10_item 338 = .ok (.getfield 28, 3) := by decide +kernel
theorem dX10_item_341 : decode cX10_item 341 = .ok (.iconst 1, 1) := by decide +kernel
theorem dX10_item_342 : decode cX10_item 342 = .ok (.aload_n 0, 1) := by decide +kernel
theorem dX10_item_343 : decode cX10_item 343 = .ok (.getfield 52, 3) := by decide +kernel
theorem dX10_item_346 : decode cX10_item 346 = .ok (.iconst 0, 1) := by decide +kernel
theorem dX10_item_347 : decode cX10_item 347 = .ok (.iaload, 1) := by decide +kernel
theorem dX10_item_348 : decode cX10_item 348 = .ok (.iastore, 1) := by decide +kernel
theorem dX10_item_349 : decode cX10_item 349 = .ok (.iconst 1, 1) := by decide +kernel
theorem dX10_item_350 : decode cX10_item 350 = .ok (.ireturn, 1) := by decide +kernel
theorem dX10_item_351 : decode cX10_item 351 = .ok (.iconst 0, 1) := by decide +kernel
theorem dX10_item_352 : decode cX10_item 352 = .ok (.ireturn, 1) := by decide +kernel
theorem dX10_readAll_0 : decode cX10_readAll 0 = .ok (.aload_n 0, 1) := by decide +kernel
theorem dX10_readAll_1 : decode cX10_readAll 1 = .ok (.iconst 1, 1) := by decide +kernel
theorem dX10_readAll_2 : decode cX10_readAll 2 = .ok (.invokevirtual 81, 3) := by decide +kernel
theorem dX10_readAll_5 : decode cX10_readAll 5 = .ok (.aload_n 0, 1) := by decide +kernel
theorem dX10_readAll_6 : decode cX10_readAll 6 = .ok (.iconst 0, 1) := by decide +kernel
theorem dX10_readAll_7 : decode cX10_readAll 7 = .ok (.putfield 117, 3) := by decide +kernel
theorem dX10_readAll_10 : decode cX10_readAll 10 = .ok (.aload_n 0, 1) := by decide +kernel
theorem dX10_readAll_11 : decode cX10_readAll 11 = .ok (.iconst 0, 1) := by decide +kernel
theorem dX10_readAll_12 : decode cX10_readAll 12 = .ok (.putfield 100, 3) := by decide +kernel
theorem dX10_readAll_15 : decode cX10_readAll 15 = .ok (.aload_n 0, 1) := by decide +kernel
theorem dX10_readAll_16 : decode cX10_readAll 16 = .ok (.getfield 100, 3) := by decide +kernel
theorem dX10_readAll_19 : decode cX10_readAll 19 = .ok (.aload_n 0, 1) := by decide +kernel
theorem dX10_readAll_20 : decode cX10_readAll 20 = .ok (.getfield 94, 3) := by decide +kernel
theorem dX10_readAll_23 : decode cX10_readAll 23 = .ok (.if_icmp .ge 20, 3) := by decide +kernel
theorem dX10_readAll_26 : decode cX10_readAll 26 = .ok (.aload_n 0, 1) := by decide +kernel
theorem dX10_readAll_27 : decode cX10_readAll 27 = .ok (.getfield 100, 3) := by decide +kernel
theorem dX10_readAll_30 : decode cX10_readAll 30 = .ok (.istore_n 1, 1) := by decide +kernel
theorem dX10_readAll_31 : decode cX10_readAll 31 = .ok (.aload_n 0, 1) := by decide +kernel
theorem dX10_readAll_32 : decode cX10_readAll 32 = .ok (.invokevirtual 120, 3) := by decide +kernel
theorem dX10_readAll_35 : decode cX10_readAll 35 = .ok (.ifCond .ne 5, 3) := by decide +kernel
theorem dX10_readAll_38 : decode cX10_readAll 38 = .ok (.iload_n 1, 1) := by decide +kernel
theorem dX10_readAll_39 : decode cX10_readAll 39 = .ok (.ireturn, 1) := by decide +kernel
theorem dX10_readAll_40 : decode cX10_readAll 40 = .ok (.goto (-25), 3) := by decide +kernel
theorem dX10_readAll_43 : decode cX10_readAll 43 = .ok (.bipush (-4), 2) := by decide +kernel
theorem dX10_readAll_45 : decode cX10_readAll 45 = .ok (.ireturn, 1) := by decide +kernel
theorem dX10_fault_0 : decode cX10_fault 0 = .ok (.aload_n 0, 1) := by decide +kernel
theorem dX10_fault_1 : decode cX10_fault 1 = .ok (.invokevirtual 124, 3) := by decide +kernel
theorem dX10_fault_4 : decode cX10_fault 4 = .ok (.ireturn, 1) := by decide +kernel
theorem dX10_areThere_0 : decode cX10_areThere 0 = .ok (.aload_n 0, 1) := by decide +kernel
theorem dX10_areThere_1 : decode cX10_areThere 1 = .ok (.getfield 13, 3) := by decide +kernel
theorem dX10_areThere_4 : decode cX10_areThere 4 = .ok (.iconst 1, 1) := by decide +kernel
theorem dX10_areThere_5 : decode cX10_areThere 5 = .ok (.iaload, 1) := by decide +kernel
theorem dX10_areThere_6 : decode cX10_areThere 6 = .ok (.iconst 2, 1) := by decide +kernel
theorem dX10_areThere_7 : decode cX10_areThere 7 = .ok (.if_icmp .lt 20, 3) := by decide +kernel
theorem dX10_areThere_10 : decode cX10_areThere 10 = .ok (.aload_n 0, 1) := by decide +kernel
theorem dX10_areThere_11 : decode cX10_areThere 11 = .ok (.getfield 117, 3) := by decide +kernel
theorem dX10_areThere_14 : decode cX10_areThere 14 = .ok (.aload_n 0, 1) := by decide +kernel
theorem dX10_areThere_15 : decode cX10_areThere 15 = .ok (.getfield 13, 3) := by decide +kernel
theorem dX10_areThere_18 : decode cX10_areThere 18 = .ok (.iconst 1, 1) := by decide +kernel
theorem dX10_areThere_19 : decode cX10_areThere 19 = .ok (.iaload, 1) := by decide +kernel
theorem dX10_areThere_20 : decode cX10_areThere 20 = .ok (.if_icmp .ge 7, 3) := by decide +kernel
theorem dX10_areThere_23 : decode cX10_areThere 23 = .ok (.iconst 1, 1) := by decide +kernel
theorem dX10_areThere_24 : decode cX10_areThere 24 = .ok (.goto 4, 3) := by decide +kernel
theorem dX10_areThere_27 : decode cX10_areThere 27 = .ok (.iconst 0, 1) := by decide +kernel
theorem dX10_areThere_28 : decode cX10_areThere 28 = .ok (.istore_n 1, 1) := by decide +kernel
theorem dX10_areThere_29 : decode cX10_areThere 29 = .ok (.iconst 0, 1) := by decide +kernel
theorem dX10_areThere_30 : decode cX10_areThere 30 = .ok (.istore_n 2, 1) := by decide +kernel
theorem dX10_areThere_31 : decode cX10_areThere 31 = .ok (.iload_n 2, 1) := by decide +kernel
theorem dX10_areThere_32 : decode cX10_areThere 32 = .ok (.aload_n 0, 1) := by decide +kernel
theorem dX10_areThere_33 : decode cX10_areThere 33 = .ok (.getfield 13, 3) := by decide +kernel
theorem dX10_areThere_36 : decode cX10_areThere 36 = .ok (.iconst 1, 1) := by decide +kernel
theorem dX10_areThere_37 : decode cX10_areThere 37 = .ok (.iaload, 1) := by decide +kernel
theorem dX10_areThere_38 : decode cX10_areThere 38 = .ok (.if_icmp .ge 37, 3) := by decide +kernel
theorem dX10_areThere_41 : decode cX10_areThere 41 = .ok (.iload_n 1, 1) := by decide +kernel
theorem dX10_areThere_42 : decode cX10_areThere 42 = .ok (.ifCond .eq 25, 3) := by decide +kernel
theorem dX10_areThere_45 : decode cX10_areThere 45 = .ok (.aload_n 0, 1) := by decide +kernel
theorem dX10_areThere_46 : decode cX10_areThere 46 = .ok (.getfield 16, 3) := by decide +kernel
theorem dX10_areThere_49 : decode cX10_areThere 49 = .ok (.bipush 6, 2) := by decide +kernel
theorem dX10_areThere_51 : decode cX10_areThere 51 = .ok (.iload_n 2, 1) := by decide +kernel
theorem dX10_areThere_52 : decode cX10_areThere 52 = .ok (.iadd, 1) := by decide +kernel
theorem dX10_areThere_53 : decode cX10_areThere 53 = .ok (.iaload, 1) := by decide +kernel
theorem dX10_areThere_54 : decode cX10_areThere 54 = .ok (.aload_n 0, 1) := by decide +kernel
theorem dX10_areThere_55 : decode cX10_areThere 55 = .ok (.getfield 13, 3) := by decide +kernel
theorem dX10_areThere_58 : decode cX10_areThere 58 = .ok (.iconst 1, 1) := by decide +kernel
theorem dX10_areThere_59 : decode cX10_areThere 59 = .ok (.iaload, 1) := by decide +kernel
theorem dX10_areThere_60 : decode cX10_areThere 60 = .ok (.if_icmp .ge 7, 3) := by decide +kernel
theorem dX10_areThere_63 : decode cX10_areThere 63 = .ok (.iconst 1, 1) := by decide +kernel
theorem dX10_areThere_64 : decode cX10_areThere 64 = .ok (.goto 4, 3) := by decide +kernel
theorem dX10_areThere_67 : decode cX10_areThere 67 = .ok (.iconst 0, 1) := by decide +kernel
theorem dX10_areThere_68 : decode cX10_areThere 68 = .ok (.istore_n 1, 1) := by decide +kernel
theorem dX10_areThere_69 : decode cX10_areThere 69 = .ok (.iinc 2 1, 3) := by decide +kernel
theorem dX10_areThere_72 : decode cX10_areThere 72 = .ok (.goto (-41), 3) := by decide +kernel
theorem dX10_areThere_75 : decode cX10_areThere 75 = .ok (.iload_n 1, 1) := by decide +kernel
theorem dX10_areThere_76 : decode cX10_areThere 76 = .ok (.ireturn, 1) := by decide +kernel
theorem dX10_layHouses_0 : decode cX10_layHouses 0 = .ok (.iconst 0, 1) := by decide +kernel
theorem dX10_layHouses_1 : decode cX10_layHouses 1 = .ok (.istore_n 1, 1) := by decide +kernel
theorem dX10_layHouses_2 : decode cX10_layHouses 2 = .ok (.iload_n 1, 1) := by decide +kernel
theorem dX10_layHouses_3 : decode cX10_layHouses 3 = .ok (.bipush 6, 2) := by decide +kernel
theorem dX10_layHouses_5 : decode cX10_layHouses 5 = .ok (.if_icmp .ge 16, 3) := by decide +kernel
theorem dX10_layHouses_8 : decode cX10_layHouses 8 = .ok (.aload_n 0, 1) := by decide +kernel
theorem dX10_layHouses_9 : decode cX10_layHouses 9 = .ok (.getfield 31, 3) := by decide +kernel
theorem dX10_layHouses_12 : decode cX10_layHouses 12 = .ok (.iload_n 1, 1) := by decide +kernel
theorem dX10_layHouses_13 : decode cX10_layHouses 13 = .ok (.iload_n 1, 1) := by decide +kernel
theorem dX10_layHouses_14 : decode cX10_layHouses 14 = .ok (.iastore, 1) := by decide +kernel
theorem dX10_layHouses_15 : decode cX10_layHouses 15 = .ok (.iinc 1 1, 3) := by decide +kernel
theorem dX10_layHouses_18 : decode cX10_layHouses 18 = .ok (.goto (-16), 3) := by decide +kernel
theorem dX10_layHouses_21 : decode cX10_layHouses 21 = .ok (.aload_n 0, 1) := by decide +kernel
theorem dX10_layHouses_22 : decode cX10_layHouses 22 = .ok (.iconst 0, 1) := by decide +kernel
theorem dX10_layHouses_23 : decode cX10_layHouses 23 = .ok (.putfield 128, 3) := by decide +kernel
theorem dX10_layHouses_26 : decode cX10_layHouses 26 = .ok (.aload_n 0, 1) := by decide +kernel
theorem dX10_layHouses_27 : decode cX10_layHouses 27 = .ok (.iconst 0, 1) := by decide +kernel
theorem dX10_layHouses_28 : decode cX10_layHouses 28 = .ok (.putfield 131, 3) := by decide +kernel
theorem dX10_layHouses_31 : decode cX10_layHouses 31 = .ok (.aload_n 0, 1) := by decide +kernel
theorem dX10_layHouses_32 : decode cX10_layHouses 32 = .ok (.iconst 0, 1) := by decide +kernel
theorem dX10_layHouses_33 : decode cX10_layHouses 33 = .ok (.putfield 134, 3) := by decide +kernel
theorem dX10_layHouses_36 : decode cX10_layHouses 36 = .ok (.aload_n 0, 1) := by decide +kernel
theorem dX10_layHouses_37 : decode cX10_layHouses 37 = .ok (.iconst 0, 1) := by decide +kernel
theorem dX10_layHouses_38 : decode cX10_layHouses 38 = .ok (.putfield 137, 3) := by decide +kernel
theorem dX10_layHouses_41 : decode cX10_layHouses 41 = .ok (.aload_n 0, 1) := by decide +kernel
theorem dX10_layHouses_42 : decode cX10_layHouses 42 = .ok (.invokevirtual 140, 3) := by decide +kernel
theorem dX10_layHouses_45 : decode cX10_layHouses 45 = .ok (.return_, 1) := by decide +kernel
theorem dX10_lay_0 : decode cX10_lay 0 = .ok (.aload_n 0, 1) := by decide +kernel
theorem dX10_lay_1 : decode cX10_lay 1 = .ok (.invokevirtual 124, 3) := by decide +kernel
theorem dX10_lay_4 : decode cX10_lay 4 = .ok (.bipush (-4), 2) := by decide +kernel
theorem dX10_lay_6 : decode cX10_lay 6 = .ok (.if_icmp .ne 10, 3) := by decide +kernel
theorem dX10_lay_9 : decode cX10_lay 9 = .ok (.aload_n 0, 1) := by decide +kernel
theorem dX10_lay_10 : decode cX10_lay 10 = .ok (.invokevirtual 143, 3) := by decide +kernel
theorem dX10_lay_13 : decode cX10_lay 13 = .ok (.ifCond .ne 6, 3) := by decide +kernel
theorem dX10_lay_16 : decode cX10_lay 16 = .ok (.bipush (-2), 2) := by decide +kernel
theorem dX10_lay_18 : decode cX10_lay 18 = .ok (.ireturn, 1) := by decide +kernel
theorem dX10_lay_19 : decode cX10_lay 19 = .ok (.aload_n 0, 1) := by decide +kernel
theorem dX10_lay_20 : decode cX10_lay 20 = .ok (.getfield 13, 3) := by decide +kernel
theorem dX10_lay_23 : decode cX10_lay 23 = .ok (.iconst 0, 1) := by decide +kernel
theorem dX10_lay_24 : decode cX10_lay 24 = .ok (.aload_n 0, 1) := by decide +kernel
theorem dX10_lay_25 : decode cX10_lay 25 = .ok (.getfield 13, 3) := by decide +kernel
theorem dX10_lay_28 : decode cX10_lay 28 = .ok (.iconst 1, 1) := by decide +kernel
theorem dX10_lay_29 : decode cX10_lay 29 = .ok (.iaload, 1) := by decide +kernel
theorem dX10_lay_30 : decode cX10_lay 30 = .ok (.iastore, 1) := by decide +kernel
theorem dX10_lay_31 : decode cX10_lay 31 = .ok (.aload_n 0, 1) := by decide +kernel
theorem dX10_lay_32 : decode cX10_lay 32 = .ok (.getfield 28, 3) := by decide +kernel
theorem dX10_lay_35 : decode cX10_lay 35 = .ok (.iconst 0, 1) := by decide +kernel
theorem dX10_lay_36 : decode cX10_lay 36 = .ok (.aload_n 0, 1) := by decide +kernel
theorem dX10_lay_37 : decode cX10_lay 37 = .ok (.getfield 28, 3) := by decide +kernel
theorem dX10_lay_40 : decode cX10_lay 40 = .ok (.iconst 1, 1) := by decide +kernel
theorem dX10_lay_41 : decode cX10_lay 41 = .ok (.iaload, 1) := by decide +kernel
theorem dX10_lay_42 : decode cX10_lay 42 = .ok (.iastore, 1) := by decide +kernel
theorem dX10_lay_43 : decode cX10_lay 43 = .ok (.iconst 0, 1) := by decide +kernel
theorem dX10_lay_44 : decode cX10_lay 44 = .ok (.istore_n 1, 1) := by decide +kernel
theorem dX10_lay_45 : decode cX10_lay 45 = .ok (.iload_n 1, 1) := by decide +kernel
theorem dX10_lay_46 : decode cX10_lay 46 = .ok (.bipush 6, 2) := by decide +kernel
theorem dX10_lay_48 : decode cX10_lay 48 = .ok (.if_icmp .ge 54, 3) := by decide +kernel
theorem dX10_lay_51 : decode cX10_lay 51 = .ok (.aload_n 0, 1) := by decide +kernel
theorem dX10_lay_52 : decode cX10_lay 52 = .ok (.getfield 16, 3) := by decide +kernel
theorem dX10_lay_55 : decode cX10_lay 55 = .ok (.iload_n 1, 1) := by decide +kernel
theorem dX10_lay_56 : decode cX10_lay 56 = .ok (.aload_n 0, 1) := by decide +kernel
theorem dX10_lay_57 : decode cX10_lay 57 = .ok (.getfield 16, 3) := by decide +kernel
theorem dX10_lay_60 : decode cX10_lay 60 = .ok (.bipush 6, 2) := by decide +kernel
theorem dX10_lay_62 : decode cX10_lay 62 = .ok (.iload_n 1, 1) := by decide +kernel
theorem dX10_lay_63 : decode cX10_lay 63 = .ok (.iadd, 1) := by decide +kernel
theorem dX10_lay_64 : decode cX10_lay 64 = .ok (.iaload, 1) := by decide +kernel
theorem dX10_lay_65 : decode cX10_lay 65 = .ok (.iastore, 1) := by decide +kernel
theorem dX10_lay_66 : decode cX10_lay 66 = .ok (.aload_n 0, 1) := by decide +kernel
theorem dX10_lay_67 : decode cX10_lay 67 = .ok (.getfield 19, 3) := by decide +kernel
theorem dX10_lay_70 : decode cX10_lay 70 = .ok (.iload_n 1, 1) := by decide +kernel
theorem dX10_lay_71 : decode cX10_lay 71 = .ok (.aload_n 0, 1) := by decide +kernel
theorem dX10_lay_72 : decode cX10_lay 72 = .ok (.getfield 19, 3) := by decide +kernel
theorem dX10_lay_75 : decode cX10_lay 75 = .ok (.bipush 6, 2) := by decide +kernel
theorem dX10_lay_77 : decode cX10_lay 77 = .ok (.iload_n 1, 1) := by decide +kernel
theorem dX10_lay_78 : decode cX10_lay 78 = .ok (.iadd, 1) := by decide +kernel
theorem dX10_lay_79 : decode cX10_lay 79 = .ok (.iaload, 1) := by decide +kernel
theorem dX10_lay_80 : decode cX10_lay 80 = .ok (.iastore, 1) := by decide +kernel
theorem dX10_lay_81 : decode cX10_lay 81 = .ok (.aload_n 0, 1) := by decide +kernel
theorem dX10_lay_82 : decode cX10_lay 82 = .ok (.getfield 22, 3) := by decide +kernel
theorem dX10_lay_85 : decode cX10_lay 85 = .ok (.iload_n 1, 1) := by decide +kernel
theorem dX10_lay_86 : decode cX10_lay 86 = .ok (.aload_n 0, 1) := by decide +kernel
theorem dX10_lay_87 : decode cX10_lay 87 = .ok (.getfield 22, 3) := by decide +kernel
theorem dX10_lay_90 : decode cX10_lay 90 = .ok (.bipush 6, 2) := by decide +kernel
theorem dX10_lay_92 : decode cX10_lay 92 = .ok (.iload_n 1, 1) := by decide +kernel
theorem dX10_lay_93 : decode cX10_lay 93 = .ok (.iadd, 1) := by decide +kernel
theorem dX10_lay_94 : decode cX10_lay 94 = .ok (.iaload, 1) := by decide +kernel
theorem dX10_lay_95 : decode cX10_lay 95 = .ok (.iastore, 1) := by decide +kernel
theorem dX10_lay_96 : decode cX10_lay 96 = .ok (.iinc 1 1, 3) := by decide +kernel
theorem dX10_lay_99 : decode cX10_lay 99 = .ok (.goto (-54), 3) := by decide +kernel
theorem dX10_lay_102 : decode cX10_lay 102 = .ok (.iconst 0, 1) := by decide +kernel
theorem dX10_lay_103 : decode cX10_lay 103 = .ok (.istore_n 1, 1) := by decide +kernel
theorem dX10_lay_104 : decode cX10_lay 104 = .ok (.iload_n 1, 1) := by decide +kernel
theorem dX10_lay_105 : decode cX10_lay 105 = .ok (.bipush 36, 2) := by decide +kernel
theorem dX10_lay_107 : decode cX10_lay 107 = .ok (.if_icmp .ge 24, 3) := by decide +kernel
theorem dX10_lay_110 : decode cX10_lay 110 = .ok (.aload_n 0, 1) := by decide +kernel
theorem dX10_lay_111 : decode cX10_lay 111 = .ok (.getfield 25, 3) := by decide +kernel
theorem dX10_lay_114 : decode cX10_lay 114 = .ok (.iload_n 1, 1) := by decide +kernel
theorem dX10_lay_115 : decode cX10_lay 115 = .ok (.aload_n 0, 1) := by decide +kernel
theorem dX10_lay_116 : decode cX10_lay 116 = .ok (.getfield 25, 3) := by decide +kernel
theorem dX10_lay_119 : decode cX10_lay 119 = .ok (.bipush 36, 2) := by decide +kernel
theorem dX10_lay_121 : decode cX10_lay 121 = .ok (.iload_n 1, 1) := by decide +kernel
theorem dX10_lay_122 : decode cX10_lay 122 = .ok (.iadd, 1) := by decide +kernel
theorem dX10_lay_123 : decode cX10_lay 123 = .ok (.iaload, 1) := by decide +kernel
theorem dX10_lay_124 : decode cX10_lay 124 = .ok (.iastore, 1) := by decide +kernel
theorem dX10_lay_125 : decode cX10_lay 125 = .ok (.iinc 1 1, 3) := by decide +kernel
theorem dX10_lay_128 : decode cX10_lay 128 = .ok (.goto (-24), 3) := by decide +kernel
theorem dX10_lay_131 : decode cX10_lay 131 = .ok (.aload_n 0, 1) := by decide +kernel
theorem dX10_lay_132 : decode cX10_lay 132 = .ok (.invokevirtual 85, 3) := by decide +kernel
theorem dX10_lay_135 : decode cX10_lay 135 = .ok (.aload_n 0, 1) := by decide +kernel
theorem dX10_lay_136 : decode cX10_lay 136 = .ok (.getfield 13, 3) := by decide +kernel
theorem dX10_lay_139 : decode cX10_lay 139 = .ok (.iconst 0, 1) := by decide +kernel
theorem dX10_lay_140 : decode cX10_lay 140 = .ok (.iaload, 1) := by decide +kernel
theorem dX10_lay_141 : decode cX10_lay 141 = .ok (.ireturn, 1) := by decide +kernel
theorem dX10_isPlace_0 : decode cX10_isPlace 0 = .ok (.iload_n 1, 1) := by decide +kernel
theorem dX10_isPlace_1 : decode cX10_isPlace 1 = .ok (.i2l, 1) := by decide +kernel
theorem dX10_isPlace_2 : decode cX10_isPlace 2 = .ok (.lconst 0, 1) := by decide +kernel
theorem dX10_isPlace_3 : decode cX10_isPlace 3 = .ok (.aload_n 0, 1) := by decide +kernel
theorem dX10_isPlace_4 : decode cX10_isPlace 4 = .ok (.getfield 13, 3) := by decide +kernel
theorem dX10_isPlace_7 : decode cX10_isPlace 7 = .ok (.iconst 0, 1) := by decide +kernel
theorem dX10_isPlace_8 : decode cX10_isPlace 8 = .ok (.iaload, 1) := by decide +kernel
theorem dX10_isPlace_9 : decode cX10_isPlace 9 = .ok (.iconst 1, 1) := by decide +kernel
theorem dX10_isPlace_10 : decode cX10_isPlace 10 = .ok (.isub, 1) := by decide +kernel
theorem dX10_isPlace_11 : decode cX10_isPlace 11 = .ok (.i2l, 1) := by decide +kernel
theorem dX10_isPlace_12 : decode cX10_isPlace 12 = .ok (.invokestatic 90, 3) := by decide +kernel
theorem dX10_isPlace_15 : decode cX10_isPlace 15 = .ok (.ireturn, 1) := by decide +kernel
theorem dX10_person_0 : decode cX10_person 0 = .ok (.aload_n 0, 1) := by decide +kernel
theorem dX10_person_1 : decode cX10_person 1 = .ok (.iload_n 1, 1) := by decide +kernel
theorem dX10_person_2 : decode cX10_person 2 = .ok (.invokevirtual 146, 3) := by decide +kernel
theorem dX10_person_5 : decode cX10_person 5 = .ok (.ifCond .eq 15, 3) := by decide +kernel
theorem dX10_person_8 : decode cX10_person 8 = .ok (.iload_n 2, 1) := by decide +kernel
theorem dX10_person_9 : decode cX10_person 9 = .ok (.i2l, 1) := by decide +kernel
theorem dX10_person_10 : decode cX10_person 10 = .ok (.lconst 0, 1) := by decide +kernel
theorem dX10_person_11 : decode cX10_person 11 = .ok (.ldc2_w 149, 3) := by decide +kernel
theorem dX10_person_14 : decode cX10_person 14 = .ok (.invokestatic 90, 3) := by decide +kernel
theorem dX10_person_17 : decode cX10_person 17 = .ok (.ifCond .ne 5, 3) := by decide +kernel
theorem dX10_person_20 : decode cX10_person 20 = .ok (.iconst (-1), 1) := by decide +kernel
theorem dX10_person_21 : decode cX10_person 21 = .ok (.ireturn, 1) := by decide +kernel
theorem dX10_person_22 : decode cX10_person 22 = .ok (.iload_n 2, 1) := by decide +kernel
theorem dX10_person_23 : decode cX10_person 23 = .ok (.ifCond .ne 12, 3) := by decide +kernel
theorem dX10_person_26 : decode cX10_person 26 = .ok (.aload_n 0, 1) := by decide +kernel
theorem dX10_person_27 : decode cX10_person 27 = .ok (.getfield 16, 3) := by decide +kernel
theorem dX10_person_30 : decode cX10_person 30 = .ok (.iload_n 1, 1) := by decide +kernel
theorem dX10_person_31 : decode cX10_person 31 = .ok (.iaload, 1) := by decide +kernel
theorem dX10_person_32 : decode cX10_person 32 = .ok (.goto 40, 3) := by decide +kernel
theorem dX10_person_35 : decode cX10_person 35 = .ok (.iload_n 2, 1) := by decide +kernel
theorem dX10_person_36 : decode cX10_person 36 = .ok (.iconst 1, 1) := by decide +kernel
theorem dX10_person_37 : decode cX10_person 37 = .ok (.if_icmp .ne 12, 3) := by decide +kernel
theorem dX10_person_40 : decode cX10_person 40 = .ok (.aload_n 0, 1) := by decide +kernel
theorem dX10_person_41 : decode cX10_person 41 = .ok (.getfield 19, 3) := by decide +kernel
theorem dX10_person_44 : decode cX10_person 44 = .ok (.iload_n 1, 1) := by decide +kernel
theorem dX10_person_45 : decode cX10_person 45 = .ok (.iaload, 1) := by decide +kernel
theorem dX10_person_46 : decode cX10_person 46 = .ok (.goto 26, 3) := by decide +kernel
theorem dX10_person_49 : decode cX10_person 49 = .ok (.iload_n 2, 1) := by decide +kernel
theorem dX10_person_50 : decode cX10_person 50 = .ok (.iconst 2, 1) := by decide +kernel
theorem dX10_person_51 : decode cX10_person 51 = .ok (.if_icmp .ne 12, 3) := by decide +kernel
theorem dX10_person_54 : decode cX10_person 54 = .ok (.aload_n 0, 1) := by decide +kernel
theorem dX10_person_55 : decode cX10_person 55 = .ok (.getfield 22, 3) := by decide +kernel
theorem dX10_person_58 : decode cX10_person 58 = .ok (.iload_n 1, 1) := by decide +kernel
theorem dX10_person_59 : decode cX10_person 59 = .ok (.iaload, 1) := by decide +kernel
theorem dX10_person_60 : decode cX10_person 60 = .ok (.goto 12, 3) := by decide +kernel
theorem dX10_person_63 : decode cX10_person 63 = .ok (.aload_n 0, 1) := by decide +kernel
theorem dX10_person_64 : decode cX10_person 64 = .ok (.aload_n 0, 1) := by decide +kernel
theorem dX10_person_65 : decode cX10_person 65 = .ok (.invokevirtual 151, 3) := by decide +kernel
theorem dX10_person_68 : decode cX10_person 68 = .ok (.iload_n 1, 1) := by decide +kernel
theorem dX10_person_69 : decode cX10_person 69 = .ok (.invokevirtual 154, 3) := by decide +kernel
theorem dX10_person_72 : decode cX10_person 72 = .ok (.ireturn, 1) := by decide +kernel
theorem dX10_likes_0 : decode cX10_likes 0 = .ok (.aload_n 0, 1) := by decide +kernel
theorem dX10_likes_1 : decode cX10_likes 1 = .ok (.iload_n 1, 1) := by decide +kernel
theorem dX10_likes_2 : decode cX10_likes 2 = .ok (.invokevirtual 146, 3) := by decide +kernel
theorem dX10_likes_5 : decode cX10_likes 5 = .ok (.ifCond .eq 30, 3) := by decide +kernel
theorem dX10_likes_8 : decode cX10_likes 8 = .ok (.aload_n 0, 1) := by decide +kernel
theorem dX10_likes_9 : decode cX10_likes 9 = .ok (.iload_n 2, 1) := by decide +kernel
theorem dX10_likes_10 : decode cX10_likes 10 = .ok (.invokevirtual 146, 3) := by decide +kernel
theorem dX10_likes_13 : decode cX10_likes 13 = .ok (.ifCond .eq 22, 3) := by decide +kernel
theorem dX10_likes_16 : decode cX10_likes 16 = .ok (.iload_n 1, 1) := by decide +kernel
theorem dX10_likes_17 : decode cX10_likes 17 = .ok (.iload_n 2, 1) := by decide +kernel
theorem dX10_likes_18 : decode cX10_likes 18 = .ok (.if_icmp .eq 17, 3) := by decide +kernel
theorem dX10_likes_21 : decode cX10_likes 21 = .ok (.aload_n 0, 1) := by decide +kernel
theorem dX10_likes_22 : decode cX10_likes 22 = .ok (.getfield 25, 3) := by decide +kernel
theorem dX10_likes_25 : decode cX10_likes 25 = .ok (.bipush 6, 2) := by decide +kernel
theorem dX10_likes_27 : decode cX10_likes 27 = .ok (.iload_n 1, 1) := by decide +kernel
theorem dX10_likes_28 : decode cX10_likes 28 = .ok (.imul, 1) := by decide +kernel
theorem dX10_likes_29 : decode cX10_likes 29 = .ok (.iload_n 2, 1) := by decide +kernel
theorem dX10_likes_30 : decode cX10_likes 30 = .ok (.iadd, 1) := by decide +kernel
theorem dX10_likes_31 : decode cX10_likes 31 = .ok (.iaload, 1) := by decide +kernel
theorem dX10_likes_32 : decode cX10_likes 32 = .ok (.goto 4, 3) := by decide +kernel
theorem dX10_likes_35 : decode cX10_likes 35 = .ok (.iconst (-1), 1) := by decide +kernel
theorem dX10_likes_36 : decode cX10_likes 36 = .ok (.ireturn, 1) := by decide +kernel
theorem dX10_code_0 : decode cX10_code 0 = .ok (.iconst 0, 1) := by decide +kernel
theorem dX10_code_1 : decode cX10_code 1 = .ok (.istore_n 3, 1) := by decide +kernel
theorem dX10_code_2 : decode cX10_code 2 = .ok (.iconst 0, 1) := by decide +kernel
theorem dX10_code_3 : decode cX10_code 3 = .ok (.istore 4, 2) := by decide +kernel
theorem dX10_code_5 : decode cX10_code 5 = .ok (.iload 4, 2) := by decide +kernel
theorem dX10_code_7 : decode cX10_code 7 = .ok (.aload_n 0, 1) := by decide +kernel
theorem dX10_code_8 : decode cX10_code 8 = .ok (.getfield 13, 3) := by decide +kernel
theorem dX10_code_11 : decode cX10_code 11 = .ok (.iconst 0, 1) := by decide +kernel
theorem dX10_code_12 : decode cX10_code 12 = .ok (.iaload, 1) := by decide +kernel
theorem dX10_code_13 : decode cX10_code 13 = .ok (.if_icmp .ge 21, 3) := by decide +kernel
theorem dX10_code_16 : decode cX10_code 16 = .ok (.bipush 6, 2) := by decide +kernel
theorem dX10_code_18 : decode cX10_code 18 = .ok (.iload_n 3, 1) := by decide +kernel
theorem dX10_code_19 : decode cX10_code 19 = .ok (.imul, 1) := by decide +kernel
theorem dX10_code_20 : decode cX10_code 20 = .ok (.aload_n 1, 1) := by decide +kernel
theorem dX10_code_21 : decode cX10_code 21 = .ok (.iload_n 2, 1) := by decide +kernel
theorem dX10_code_22 : decode cX10_code 22 = .ok (.iload 4, 2) := by decide +kernel
theorem dX10_code_24 : decode cX10_code 24 = .ok (.iadd, 1) := by decide +kernel
theorem dX10_code_25 : decode cX10_code 25 = .ok (.iaload, 1) := by decide +kernel
theorem dX10_code_26 : decode cX10_code 26 = .ok (.iadd, 1) := by decide +kernel
theorem dX10_code_27 : decode cX10_code 27 = .ok (.istore_n 3, 1) := by decide +kernel
theorem dX10_code_28 : decode cX10_code 28 = .ok (.iinc 4 1, 3) := by decide +kernel
theorem dX10_code_31 : decode cX10_code 31 = .ok (.goto (-26), 3) := by decide +kernel
theorem dX10_code_34 : decode cX10_code 34 = .ok (.iload_n 3, 1) := by decide +kernel
theorem dX10_code_35 : decode cX10_code 35 = .ok (.ireturn, 1) := by decide +kernel
theorem dX10_layAll_0 : decode cX10_layAll 0 = .ok (.aload_n 0, 1) := by decide +kernel
theorem dX10_layAll_1 : decode cX10_layAll 1 = .ok (.iconst 0, 1) := by decide +kernel
theorem dX10_layAll_2 : decode cX10_layAll 2 = .ok (.putfield 158, 3) := by decide +kernel
theorem dX10_layAll_5 : decode cX10_layAll 5 = .ok (.iconst 1, 1) := by decide +kernel
theorem dX10_layAll_6 : decode cX10_layAll 6 = .ok (.istore_n 1, 1) := by decide +kernel
theorem dX10_layAll_7 : decode cX10_layAll 7 = .ok (.iconst 0, 1) := by decide +kernel
theorem dX10_layAll_8 : decode cX10_layAll 8 = .ok (.istore_n 2, 1) := by decide +kernel
theorem dX10_layAll_9 : decode cX10_layAll 9 = .ok (.iload_n 2, 1) := by decide +kernel
theorem dX10_layAll_10 : decode cX10_layAll 10 = .ok (.aload_n 0, 1) := by decide +kernel
theorem dX10_layAll_11 : decode cX10_layAll 11 = .ok (.getfield 13, 3) := by decide +kernel
theorem dX10_layAll_14 : decode cX10_layAll 14 = .ok (.iconst 0, 1) := by decide +kernel
theorem dX10_layAll_15 : decode cX10_layAll 15 = .ok (.iaload, 1) := by decide +kernel
theorem dX10_layAll_16 : decode cX10_layAll 16 = .ok (.if_icmp .ge 14, 3) := by decide +kernel
theorem dX10_layAll_19 : decode cX10_layAll 19 = .ok (.iload_n 1, 1) := by decide +kernel
theorem dX10_layAll_20 : decode cX10_layAll 20 = .ok (.bipush 6, 2) := by decide +kernel
theorem dX10_layAll_22 : decode cX10_layAll 22 = .ok (.imul, 1) := by decide +kernel
theorem dX10_layAll_23 : decode cX10_layAll 23 = .ok (.istore_n 1, 1) := by decide +kernel
theorem dX10_layAll_24 : decode cX10_layAll 24 = .ok (.iinc 2 1, 3) := by decide +kernel
theorem dX10_layAll_27 : decode cX10_layAll 27 = .ok (.goto (-18), 3) := by decide +kernel
theorem dX10_layAll_30 : decode cX10_layAll 30 = .ok (.iconst 0, 1) := by decide +kernel
theorem dX10_layAll_31 : decode cX10_layAll 31 = .ok (.istore_n 2, 1) := by decide +kernel
theorem dX10_layAll_32 : decode cX10_layAll 32 = .ok (.iload_n 2, 1) := by decide +kernel
theorem dX10_layAll_33 : decode cX10_layAll 33 = .ok (.iload_n 1, 1) := by decide +kernel
theorem dX10_layAll_34 : decode cX10_layAll 34 = .ok (.if_icmp .ge 139, 3) := by decide +kernel
theorem dX10_layAll_37 : decode cX10_layAll 37 = .ok (.iload_n 2, 1) := by decide +kernel
theorem dX10_layAll_38 : decode cX10_layAll 38 = .ok (.istore_n 3, 1) := by decide +kernel
theorem dX10_layAll_39 : decode cX10_layAll 39 = .ok (.iconst 0, 1) := by decide +kernel
theorem dX10_layAll_40 : decode cX10_layAll 40 = .ok (.istore 4, 2) := by decide +kernel
theorem dX10_layAll_42 : decode cX10_layAll 42 = .ok (.aload_n 0, 1) := by decide +kernel
theorem dX10_layAll_43 : decode cX10_layAll 43 = .ok (.getfield 13, 3) := by decide +kernel
theorem dX10_layAll_46 : decode cX10_layAll 46 = .ok (.iconst 0, 1) := by decide +kernel
theorem dX10_layAll_47 : decode cX10_layAll 47 = .ok (.iaload, 1) := by decide +kernel
theorem dX10_layAll_48 : decode cX10_layAll 48 = .ok (.iconst 1, 1) := by decide +kernel
theorem dX10_layAll_49 : decode cX10_layAll 49 = .ok (.isub, 1) := by decide +kernel
theorem dX10_layAll_50 : decode cX10_layAll 50 = .ok (.istore 5, 2) := by decide +kernel
theorem dX10_layAll_52 : decode cX10_layAll 52 = .ok (.iload 5, 2) := by decide +kernel
theorem dX10_layAll_54 : decode cX10_layAll 54 = .ok (.ifCond .lt 36, 3) := by decide +kernel
theorem dX10_layAll_57 : decode cX10_layAll 57 = .ok (.aload_n 0, 1) := by decide +kernel
theorem dX10_layAll_58 : decode cX10_layAll 58 = .ok (.getfield 62, 3) := by decide +kernel
theorem dX10_layAll_61 : decode cX10_layAll 61 = .ok (.iload 5, 2) := by decide +kernel
theorem dX10_layAll_63 : decode cX10_layAll 63 = .ok (.iload_n 3, 1) := by decide +kernel
theorem dX10_layAll_64 : decode cX10_layAll 64 = .ok (.bipush 6, 2) := by decide +kernel
theorem dX10_layAll_66 : decode cX10_layAll 66 = .ok (.irem, 1) := by decide +kernel
theorem dX10_layAll_67 : decode cX10_layAll 67 = .ok (.iastore, 1) := by decide +kernel
theorem dX10_layAll_68 : decode cX10_layAll 68 = .ok (.iload 4, 2) := by decide +kernel
theorem dX10_layAll_70 : decode cX10_layAll 70 = .ok (.iconst 1, 1) := by decide +kernel
theorem dX10_layAll_71 : decode cX10_layAll 71 = .ok (.iload_n 3, 1) := by decide +kernel
theorem dX10_layAll_72 : decode cX10_layAll 72 = .ok (.bipush 6, 2) := by decide +kernel
theorem dX10_layAll_74 : decode cX10_layAll 74 = .ok (.irem, 1) := by decide +kernel
theorem dX10_layAll_75 : decode cX10_layAll 75 = .ok (.ishl, 1) := by decide +kernel
theorem dX10_layAll_76 : decode cX10_layAll 76 = .ok (.ior, 1) := by decide +kernel
theorem dX10_layAll_77 : decode cX10_layAll 77 = .ok (.istore 4, 2) := by decide +kernel
theorem dX10_layAll_79 : decode cX10_layAll 79 = .ok (.iload_n 3, 1) := by decide +kernel
theorem dX10_layAll_80 : decode cX10_layAll 80 = .ok (.bipush 6, 2) := by decide +kernel
theorem dX10_layAll_82 : decode cX10_layAll 82 = .ok (.idiv, 1) := by decide +kernel
theorem dX10_layAll_83 : decode cX10_layAll 83 = .ok (.istore_n 3, 1) := by decide +kernel
theorem dX10_layAll_84 : decode cX10_layAll 84 = .ok (.iinc 5 (-1), 3) := by decide +kernel
theorem dX10_layAll_87 : decode cX10_layAll 87 = .ok (.goto (-35), 3) := by decide +kernel
theorem dX10_layAll_90 : decode cX10_layAll 90 = .ok (.iload 4, 2) := by decide +kernel
theorem dX10_layAll_92 : decode cX10_layAll 92 = .ok (.iconst 1, 1) := by decide +kernel
theorem dX10_layAll_93 : decode cX10_layAll 93 = .ok (.aload_n 0, 1) := by decide +kernel
theorem dX10_layAll_94 : decode cX10_layAll 94 = .ok (.getfield 13, 3) := by decide +kernel
theorem dX10_layAll_97 : decode cX10_layAll 97 = .ok (.iconst 0, 1) := by decide +kernel
theorem dX10_layAll_98 : decode cX10_layAll 98 = .ok (.iaload, 1) := by decide +kernel
theorem dX10_layAll_99 : decode cX10_layAll 99 = .ok (.ishl, 1) := by decide +kernel
theorem dX10_layAll_100 : decode cX10_layAll 100 = .ok (.iconst 1, 1) := by decide +kernel
theorem dX10_layAll_101 : decode cX10_layAll 101 = .ok (.isub, 1) := by decide +kernel
theorem dX10_layAll_102 : decode cX10_layAll 102 = .ok (.if_icmp .ne 65, 3) := by decide +kernel
theorem dX10_layAll_105 : decode cX10_layAll 105 = .ok (.iconst 0, 1) := by decide +kernel
theorem dX10_layAll_106 : decode cX10_layAll 106 = .ok (.istore 5, 2) := by decide +kernel
theorem dX10_layAll_108 : decode cX10_layAll 108 = .ok (.iload 5, 2) := by decide +kernel
theorem dX10_layAll_110 : decode cX10_layAll 110 = .ok (.aload_n 0, 1) := by decide +kernel
theorem dX10_layAll_111 : decode cX10_layAll 111 = .ok (.getfield 13, 3) := by decide +kernel
theorem dX10_layAll_114 : decode cX10_layAll 114 = .ok (.iconst 0, 1) := by decide +kernel
theorem dX10_layAll_115 : decode cX10_layAll 115 = .ok (.iaload, 1) := by decide +kernel
theorem dX10_layAll_116 : decode cX10_layAll 116 = .ok (.if_icmp .ge 31, 3) := by decide +kernel
theorem dX10_layAll_119 : decode cX10_layAll 119 = .ok (.aload_n 0, 1) := by decide +kernel
theorem dX10_layAll_120 : decode cX10_layAll 120 = .ok (.getfield 55, 3) := by decide +kernel
theorem dX10_layAll_123 : decode cX10_layAll 123 = .ok (.bipush 6, 2) := by decide +kernel
theorem dX10_layAll_125 : decode cX10_layAll 125 = .ok (.aload_n 0, 1) := by decide +kernel
theorem dX10_layAll_126 : decode cX10_layAll 126 = .ok (.getfield 158, 3) := by decide +kernel
theorem dX10_layAll_129 : decode cX10_layAll 129 = .ok (.imul, 1) := by decide +kernel
theorem dX10_layAll_130 : decode cX10_layAll 130 = .ok (.iload 5, 2) := by decide +kernel
theorem dX10_layAll_132 : decode cX10_layAll 132 = .ok (.iadd, 1) := by decide +kernel
theorem dX10_layAll_133 : decode cX10_layAll 133 = .ok (.aload_n 0, 1) := by decide +kernel
theorem dX10_layAll_134 : decode cX10_layAll 134 = .ok (.getfield 62, 3) := by decide +kernel
theorem dX10_layAll_137 : decode cX10_layAll 137 = .ok (.iload 5, 2) := by decide +kernel
theorem dX10_layAll_139 : decode cX10_layAll 139 = .ok (.iaload, 1) := by decide +kernel
theorem dX10_layAll_140 : decode cX10_layAll 140 = .ok (.iastore, 1) := by decide +kernel
theorem dX10_layAll_141 : decode cX10_layAll 141 = .ok (.iinc 5 1, 3) := by decide +kernel
theorem dX10_layAll_144 : decode cX10_layAll 144 = .ok (.goto (-36), 3) := by decide +kernel
theorem dX10_layAll_147 : decode cX10_layAll 147 = .ok (.aload_n 0, 1) := by decide +kernel
theorem dX10_layAll_148 : decode cX10_layAll 148 = .ok (.getfield 59, 3) := by decide +kernel
theorem dX10_layAll_151 : decode cX10_layAll 151 = .ok (.iload_n 2, 1) := by decide +kernel
theorem dX10_layAll_152 : decode cX10_layAll 152 = .ok (.aload_n 0, 1) := by decide +kernel
theorem dX10_layAll_153 : decode cX10_layAll 153 = .ok (.getfield 158, 3) := by decide +kernel
theorem dX10_layAll_156 : decode cX10_layAll 156 = .ok (.iastore, 1) := by decide +kernel
theorem dX10_layAll_157 : decode cX10_layAll 157 = .ok (.aload_n 0, 1) := by decide +kernel
theorem dX10_layAll_158 : decode cX10_layAll 158 = .ok (.dup, 1) := by decide +kernel
theorem dX10_layAll_159 : decode cX10_layAll 159 = .ok (.getfield 158, 3) := by decide +kernel
theorem dX10_layAll_162 : decode cX10_layAll 162 = .ok (.iconst 1, 1) := by decide +kernel
theorem dX10_layAll_163 : decode cX10_layAll 163 = .ok (.iadd, 1) := by decide +kernel
theorem dX10_layAll_164 : decode cX10_layAll 164 = .ok (.putfield 158, 3) := by decide +kernel
theorem dX10_layAll_167 : decode cX10_layAll 167 = .ok (.iinc 2 1, 3) := by decide +kernel
theorem dX10_layAll_170 : decode cX10_layAll 170 = .ok (.goto (-138), 3) := by decide +kernel
theorem dX10_layAll_173 : decode cX10_layAll 173 = .ok (.return_, 1) := by decide +kernel
theorem dX10_now_0 : decode cX10_now 0 = .ok (.aload_n 0, 1) := by decide +kernel
theorem dX10_now_1 : decode cX10_now 1 = .ok (.getfield 59, 3) := by decide +kernel
theorem dX10_now_4 : decode cX10_now 4 = .ok (.aload_n 0, 1) := by decide +kernel
theorem dX10_now_5 : decode cX10_now 5 = .ok (.aload_n 0, 1) := by decide +kernel
theorem dX10_now_6 : decode cX10_now 6 = .ok (.getfield 31, 3) := by decide +kernel
theorem dX10_now_9 : decode cX10_now 9 = .ok (.iconst 0, 1) := by decide +kernel
theorem dX10_now_10 : decode cX10_now 10 = .ok (.invokevirtual 161, 3) := by decide +kernel
theorem dX10_now_13 : decode cX10_now 13 = .ok (.iaload, 1) := by decide +kernel
theorem dX10_now_14 : decode cX10_now 14 = .ok (.ireturn, 1) := by decide +kernel
theorem dX10_whoIn_0 : decode cX10_whoIn 0 = .ok (.aload_n 0, 1) := by decide +kernel
theorem dX10_whoIn_1 : decode cX10_whoIn 1 = .ok (.getfield 55, 3) := by decide +kernel
theorem dX10_whoIn_4 : decode cX10_whoIn 4 = .ok (.bipush 6, 2) := by decide +kernel
theorem dX10_whoIn_6 : decode cX10_whoIn 6 = .ok (.iload_n 1, 1) := by decide +kernel
theorem dX10_whoIn_7 : decode cX10_whoIn 7 = .ok (.imul, 1) := by decide +kernel
theorem dX10_whoIn_8 : decode cX10_whoIn 8 = .ok (.iload_n 2, 1) := by decide +kernel
theorem dX10_whoIn_9 : decode cX10_whoIn 9 = .ok (.iadd, 1) := by decide +kernel
theorem dX10_whoIn_10 : decode cX10_whoIn 10 = .ok (.iaload, 1) := by decide +kernel
theorem dX10_whoIn_11 : decode cX10_whoIn 11 = .ok (.ireturn, 1) := by decide +kernel
theorem dX10_placeIn_0 : decode cX10_placeIn 0 = .ok (.iconst 0, 1) := by decide +kernel
theorem dX10_placeIn_1 : decode cX10_placeIn 1 = .ok (.istore_n 3, 1) := by decide +kernel
theorem dX10_placeIn_2 : decode cX10_placeIn 2 = .ok (.aload_n 0, 1) := by decide +kernel
theorem dX10_placeIn_3 : decode cX10_placeIn 3 = .ok (.iload_n 1, 1) := by decide +kernel
theorem dX10_placeIn_4 : decode cX10_placeIn 4 = .ok (.iload_n 3, 1) := by decide +kernel
theorem dX10_placeIn_5 : decode cX10_placeIn 5 = .ok (.invokevirtual 165, 3) := by decide +kernel
theorem dX10_placeIn_8 : decode cX10_placeIn 8 = .ok (.iload_n 2, 1) := by decide +kernel
theorem dX10_placeIn_9 : decode cX10_placeIn 9 = .ok (.if_icmp .eq 9, 3) := by decide +kernel
theorem dX10_placeIn_12 : decode cX10_placeIn 12 = .ok (.iinc 3 1, 3) := by decide +kernel
theorem dX10_placeIn_15 : decode cX10_placeIn 15 = .ok (.goto (-13), 3) := by decide +kernel
theorem dX10_placeIn_18 : decode cX10_placeIn 18 = .ok (.iload_n 3, 1) := by decide +kernel
theorem dX10_placeIn_19 : decode cX10_placeIn 19 = .ok (.ireturn, 1) := by decide +kernel
theorem dX10_far_0 : decode cX10_far 0 = .ok (.iload_n 1, 1) := by decide +kernel
theorem dX10_far_1 : decode cX10_far 1 = .ok (.iload_n 2, 1) := by decide +kernel
theorem dX10_far_2 : decode cX10_far 2 = .ok (.if_icmp .ge 9, 3) := by decide +kernel
theorem dX10_far_5 : decode cX10_far 5 = .ok (.iload_n 2, 1) := by decide +kernel
theorem dX10_far_6 : decode cX10_far 6 = .ok (.iload_n 1, 1) := by decide +kernel
theorem dX10_far_7 : decode cX10_far 7 = .ok (.isub, 1) := by decide +kernel
theorem dX10_far_8 : decode cX10_far 8 = .ok (.goto 6, 3) := by decide +kernel
theorem dX10_far_11 : decode cX10_far 11 = .ok (.iload_n 1, 1) := by decide +kernel
theorem dX10_far_12 : decode cX10_far 12 = .ok (.iload_n 2, 1) := by decide +kernel
theorem dX10_far_13 : decode cX10_far 13 = .ok (.isub, 1) := by decide +kernel
theorem dX10_far_14 : decode cX10_far 14 = .ok (.istore_n 3, 1) := by decide +kernel
theorem dX10_far_15 : decode cX10_far 15 = .ok (.aload_n 0, 1) := by decide +kernel
theorem dX10_far_16 : decode cX10_far 16 = .ok (.getfield 28, 3) := by decide +kernel
theorem dX10_far_19 : decode cX10_far 19 = .ok (.iconst 0, 1) := by decide +kernel
theorem dX10_far_20 : decode cX10_far 20 = .ok (.iaload, 1) := by decide +kernel
theorem dX10_far_21 : decode cX10_far 21 = .ok (.iconst 1, 1) := by decide +kernel
theorem dX10_far_22 : decode cX10_far 22 = .ok (.if_icmp .ne 26, 3) := by decide +kernel
theorem dX10_far_25 : decode cX10_far 25 = .ok (.aload_n 0, 1) := by decide +kernel
theorem dX10_far_26 : decode cX10_far 26 = .ok (.getfield 13, 3) := by decide +kernel
theorem dX10_far_29 : decode cX10_far 29 = .ok (.iconst 0, 1) := by decide +kernel
theorem dX10_far_30 : decode cX10_far 30 = .ok (.iaload, 1) := by decide +kernel
theorem dX10_far_31 : decode cX10_far 31 = .ok (.iload_n 3, 1) := by decide +kernel
theorem dX10_far_32 : decode cX10_far 32 = .ok (.isub, 1) := by decide +kernel
theorem dX10_far_33 : decode cX10_far 33 = .ok (.iload_n 3, 1) := by decide +kernel
theorem dX10_far_34 : decode cX10_far 34 = .ok (.if_icmp .ge 14, 3) := by decide +kernel
theorem dX10_far_37 : decode cX10_far 37 = .ok (.aload_n 0, 1) := by decide +kernel
theorem dX10_far_38 : decode cX10_far 38 = .ok (.getfield 13, 3) := by decide +kernel
theorem dX10_far_41 : decode cX10_far 41 = .ok (.iconst 0, 1) := by decide +kernel
theorem dX10_far_42 : decode cX10_far 42 = .ok (.iaload, 1) := by decide +kernel
theorem dX10_far_43 : decode cX10_far 43 = .ok (.iload_n 3, 1) := by decide +kernel
theorem dX10_far_44 : decode cX10_far 44 = .ok (.isub, 1) := by decide +kernel
theorem dX10_far_45 : decode cX10_far 45 = .ok (.goto 4, 3) := by decide +kernel
theorem dX10_far_48 : decode cX10_far 48 = .ok (.iload_n 3, 1) := by decide +kernel
theorem dX10_far_49 : decode cX10_far 49 = .ok (.ireturn, 1) := by decide +kernel
theorem dX10_worthIn_0 : decode cX10_worthIn 0 = .ok (.aload_n 0, 1) := by decide +kernel
theorem dX10_worthIn_1 : decode cX10_worthIn 1 = .ok (.getfield 13, 3) := by decide +kernel
theorem dX10_worthIn_4 : decode cX10_worthIn 4 = .ok (.iconst 0, 1) := by decide +kernel
theorem dX10_worthIn_5 : decode cX10_worthIn 5 = .ok (.iaload, 1) := by decide +kernel
theorem dX10_worthIn_6 : decode cX10_worthIn 6 = .ok (.istore_n 3, 1) := by decide +kernel
theorem dX10_worthIn_7 : decode cX10_worthIn 7 = .ok (.aload_n 0, 1) := by decide +kernel
theorem dX10_worthIn_8 : decode cX10_worthIn 8 = .ok (.iload_n 1, 1) := by decide +kernel
theorem dX10_worthIn_9 : decode cX10_worthIn 9 = .ok (.iload_n 2, 1) := by decide +kernel
theorem dX10_worthIn_10 : decode cX10_worthIn 10 = .ok (.invokevirtual 154, 3) := by decide +kernel
theorem dX10_worthIn_13 : decode cX10_worthIn 13 = .ok (.istore 4, 2) := by decide +kernel
theorem dX10_worthIn_15 : decode cX10_worthIn 15 = .ok (.bipush 100, 2) := by decide +kernel
theorem dX10_worthIn_17 : decode cX10_worthIn 17 = .ok (.aload_n 0, 1) := by decide +kernel
theorem dX10_worthIn_18 : decode cX10_worthIn 18 = .ok (.getfield 19, 3) := by decide +kernel
theorem dX10_worthIn_21 : decode cX10_worthIn 21 = .ok (.iload_n 2, 1) := by decide +kernel
theorem dX10_worthIn_22 : decode cX10_worthIn 22 = .ok (.iaload, 1) := by decide +kernel
theorem dX10_worthIn_23 : decode cX10_worthIn 23 = .ok (.aload_n 0, 1) := by decide +kernel
theorem dX10_worthIn_24 : decode cX10_worthIn 24 = .ok (.iload 4, 2) := by decide +kernel
theorem dX10_worthIn_26 : decode cX10_worthIn 26 = .ok (.aload_n 0, 1) := by decide +kernel
theorem dX10_worthIn_27 : decode cX10_worthIn 27 = .ok (.getfield 16, 3) := by decide +kernel
theorem dX10_worthIn_30 : decode cX10_worthIn 30 = .ok (.iload_n 2, 1) := by decide +kernel
theorem dX10_worthIn_31 : decode cX10_worthIn 31 = .ok (.iaload, 1) := by decide +kernel
theorem dX10_worthIn_32 : decode cX10_worthIn 32 = .ok (.invokevirtual 168, 3) := by decide +kernel
theorem dX10_worthIn_35 : decode cX10_worthIn 35 = .ok (.imul, 1) := by decide +kernel
theorem dX10_worthIn_36 : decode cX10_worthIn 36 = .ok (.isub, 1) := by decide +kernel
theorem dX10_worthIn_37 : decode cX10_worthIn 37 = .ok (.istore 5, 2) := by decide +kernel
theorem dX10_worthIn_39 : decode cX10_worthIn 39 = .ok (.iload 4, 2) := by decide +kernel
theorem dX10_worthIn_41 : decode cX10_worthIn 41 = .ok (.iconst 1, 1) := by decide +kernel
theorem dX10_worthIn_42 : decode cX10_worthIn 42 = .ok (.iadd, 1) := by decide +kernel
theorem dX10_worthIn_43 : decode cX10_worthIn 43 = .ok (.iload_n 3, 1) := by decide +kernel
theorem dX10_worthIn_44 : decode cX10_worthIn 44 = .ok (.if_icmp .ge 10, 3) := by decide +kernel
theorem dX10_worthIn_47 : decode cX10_worthIn 47 = .ok (.iload 4, 2) := by decide +kernel
theorem dX10_worthIn_49 : decode cX10_worthIn 49 = .ok (.iconst 1, 1) := by decide +kernel
theorem dX10_worthIn_50 : decode cX10_worthIn 50 = .ok (.iadd, 1) := by decide +kernel
theorem dX10_worthIn_51 : decode cX10_worthIn 51 = .ok (.goto 19, 3) := by decide +kernel
theorem dX10_worthIn_54 : decode cX10_worthIn 54 = .ok (.aload_n 0, 1) := by decide +kernel
theorem dX10_worthIn_55 : decode cX10_worthIn 55 = .ok (.getfield 28, 3) := by decide +kernel
theorem dX10_worthIn_58 : decode cX10_worthIn 58 = .ok (.iconst 0, 1) := by decide +kernel
theorem dX10_worthIn_59 : decode cX10_worthIn 59 = .ok (.iaload, 1) := by decide +kernel
theorem dX10_worthIn_60 : decode cX10_worthIn 60 = .ok (.iconst 1, 1) := by decide +kernel
theorem dX10_worthIn_61 : decode cX10_worthIn 61 = .ok (.if_icmp .ne 7, 3) := by decide +kernel
theorem dX10_worthIn_64 : decode cX10_worthIn 64 = .ok (.iconst 0, 1) := by decide +kernel
theorem dX10_worthIn_65 : decode cX10_worthIn 65 = .ok (.goto 5, 3) := by decide +kernel
theorem dX10_worthIn_68 : decode cX10_worthIn 68 = .ok (.bipush (-4), 2) := by decide +kernel
theorem dX10_worthIn_70 : decode cX10_worthIn 70 = .ok (.istore 6, 2) := by decide +kernel
theorem dX10_worthIn_72 : decode cX10_worthIn 72 = .ok (.iload 4, 2) := by decide +kernel
theorem dX10_worthIn_74 : decode cX10_worthIn 74 = .ok (.ifCond .le 10, 3) := by decide +kernel
theorem dX10_worthIn_77 : decode cX10_worthIn 77 = .ok (.iload 4, 2) := by decide +kernel
theorem dX10_worthIn_79 : decode cX10_worthIn 79 = .ok (.iconst 1, 1) := by decide +kernel
theorem dX10_worthIn_80 : decode cX10_worthIn 80 = .ok (.isub, 1) := by decide +kernel
theorem dX10_worthIn_81 : decode cX10_worthIn 81 = .ok (.goto 21, 3) := by decide +kernel
theorem dX10_worthIn_84 : decode cX10_worthIn 84 = .ok (.aload_n 0, 1) := by decide +kernel
theorem dX10_worthIn_85 : decode cX10_worthIn 85 = .ok (.getfield 28, 3) := by decide +kernel
theorem dX10_worthIn_88 : decode cX10_worthIn 88 = .ok (.iconst 0, 1) := by decide +kernel
theorem dX10_worthIn_89 : decode cX10_worthIn 89 = .ok (.iaload, 1) := by decide +kernel
theorem dX10_worthIn_90 : decode cX10_worthIn 90 = .ok (.iconst 1, 1) := by decide +kernel
theorem dX10_worthIn_91 : decode cX10_worthIn 91 = .ok (.if_icmp .ne 9, 3) := by decide +kernel
theorem dX10_worthIn_94 : decode cX10_worthIn 94 = .ok (.iload_n 3, 1) := by decide +kernel
theorem dX10_worthIn_95 : decode cX10_worthIn 95 = .ok (.iconst 1, 1) := by decide +kernel
theorem dX10_worthIn_96 : decode cX10_worthIn 96 = .ok (.isub, 1) := by decide +kernel
theorem dX10_worthIn_97 : decode cX10_worthIn 97 = .ok (.goto 5, 3) := by decide +kernel
theorem dX10_worthIn_100 : decode cX10_worthIn 100 = .ok (.bipush (-4), 2) := by decide +kernel
theorem dX10_worthIn_102 : decode cX10_worthIn 102 = .ok (.istore 7, 2) := by decide +kernel
theorem dX10_worthIn_104 : decode cX10_worthIn 104 = .ok (.iload 5, 2) := by decide +kernel
theorem dX10_worthIn_106 : decode cX10_worthIn 106 = .ok (.iload 6, 2) := by decide +kernel
theorem dX10_worthIn_108 : decode cX10_worthIn 108 = .ok (.ifCond .lt 26, 3) := by decide +kernel
theorem dX10_worthIn_111 : decode cX10_worthIn 111 = .ok (.aload_n 0, 1) := by decide +kernel
theorem dX10_worthIn_112 : decode cX10_worthIn 112 = .ok (.getfield 25, 3) := by decide +kernel
theorem dX10_worthIn_115 : decode cX10_worthIn 115 = .ok (.bipush 6, 2) := by decide +kernel
theorem dX10_worthIn_117 : decode cX10_worthIn 117 = .ok (.iload_n 2, 1) := by decide +kernel
theorem dX10_worthIn_118 : decode cX10_worthIn 118 = .ok (.imul, 1) := by decide +kernel
theorem dX10_worthIn_119 : decode cX10_worthIn 119 = .ok (.aload_n 0, 1) := by decide +kernel
theorem dX10_worthIn_120 : decode cX10_worthIn 120 = .ok (.iload_n 1, 1) := by decide +kernel
theorem dX10_worthIn_121 : decode cX10_worthIn 121 = .ok (.iload 6, 2) := by decide +kernel
theorem dX10_worthIn_123 : decode cX10_worthIn 123 = .ok (.invokevirtual 165, 3) := by decide +kernel
theorem dX10_worthIn_126 : decode cX10_worthIn 126 = .ok (.iadd, 1) := by decide +kernel
theorem dX10_worthIn_127 : decode cX10_worthIn 127 = .ok (.iaload, 1) := by decide +kernel
theorem dX10_worthIn_128 : decode cX10_worthIn 128 = .ok (.bipush 50, 2) := by decide +kernel
theorem dX10_worthIn_130 : decode cX10_worthIn 130 = .ok (.isub, 1) := by decide +kernel
theorem dX10_worthIn_131 : decode cX10_worthIn 131 = .ok (.goto 4, 3) := by decide +kernel
theorem dX10_worthIn_134 : decode cX10_worthIn 134 = .ok (.iconst 0, 1) := by decide +kernel
theorem dX10_worthIn_135 : decode cX10_worthIn 135 = .ok (.iadd, 1) := by decide +kernel
theorem dX10_worthIn_136 : decode cX10_worthIn 136 = .ok (.istore 5, 2) := by decide +kernel
theorem dX10_worthIn_138 : decode cX10_worthIn 138 = .ok (.iload 5, 2) := by decide +kernel
theorem dX10_worthIn_140 : decode cX10_worthIn 140 = .ok (.iload 7, 2) := by decide +kernel
theorem dX10_worthIn_142 : decode cX10_worthIn 142 = .ok (.ifCond .lt 33, 3) := by decide +kernel
theorem dX10_worthIn_145 : decode cX10_worthIn 145 = .ok (.iload 7, 2) := by decide +kernel
theorem dX10_worthIn_147 : decode cX10_worthIn 147 = .ok (.iload 6, 2) := by decide +kernel
theorem dX10_worthIn_149 : decode cX10_worthIn 149 = .ok (.if_icmp .eq 26, 3) := by decide +kernel
theorem dX10_worthIn_152 : decode cX10_worthIn 152 = .ok (.aload_n 0, 1) := by decide +kernel
theorem dX10_worthIn_153 : decode cX10_worthIn 153 = .ok (.getfield 25, 3) := by decide +kernel
theorem dX10_worthIn_156 : decode cX10_worthIn 156 = .ok (.bipush 6, 2) := by decide +kernel
theorem dX10_worthIn_158 : decode cX10_worthIn 158 = .ok (.iload_n 2, 1) := by decide +kernel
theorem dX10_worthIn_159 : decode cX10_worthIn 159 = .ok (.imul, 1) := by decide +kernel
theorem dX10_worthIn_160 : decode cX10_worthIn 160 = .ok (.aload_n 0, 1) := by decide +kernel
theorem dX10_worthIn_161 : decode cX10_worthIn 161 = .ok (.iload_n 1, 1) := by decide +kernel
theorem dX10_worthIn_162 : decode cX10_worthIn 162 = .ok (.iload 7, 2) := by decide +kernel
theorem dX10_worthIn_164 : decode cX10_worthIn 164 = .ok (.invokevirtual 165, 3) := by decide +kernel
theorem dX10_worthIn_167 : decode cX10_worthIn 167 = .ok (.iadd, 1) := by decide +kernel
theorem dX10_worthIn_168 : decode cX10_worthIn 168 = .ok (.iaload, 1) := by decide +kernel
theorem dX10_worthIn_169 : decode cX10_worthIn 169 = .ok (.bipush 50, 2) := by decide +kernel
theorem dX10_worthIn_171 : decode cX10_worthIn 171 = .ok (.isub, 1) := by decide +kernel
theorem dX10_worthIn_172 : decode cX10_worthIn 172 = .ok (.goto 4, 3) := by decide +kernel
theorem dX10_worthIn_175 : decode cX10_worthIn 175 = .ok (.iconst 0, 1) := by decide +kernel
theorem dX10_worthIn_176 : decode cX10_worthIn 176 = .ok (.iadd, 1) := by decide +kernel
theorem dX10_worthIn_177 : decode cX10_worthIn 177 = .ok (.istore 5, 2) := by decide +kernel
theorem dX10_worthIn_179 : decode cX10_worthIn 179 = .ok (.iload 5, 2) := by decide +kernel
theorem dX10_worthIn_181 : decode cX10_worthIn 181 = .ok (.ireturn, 1) := by decide +kernel
theorem dX10_worth_0 : decode cX10_worth 0 = .ok (.aload_n 0, 1) := by decide +kernel
theorem dX10_worth_1 : decode cX10_worth 1 = .ok (.iload_n 1, 1) := by decide +kernel
theorem dX10_worth_2 : decode cX10_worth 2 = .ok (.invokevirtual 146, 3) := by decide +kernel
theorem dX10_worth_5 : decode cX10_worth 5 = .ok (.ifCond .eq 19, 3) := by decide +kernel
theorem dX10_worth_8 : decode cX10_worth 8 = .ok (.sipush 1000, 3) := by decide +kernel
theorem dX10_worth_11 : decode cX10_worth 11 = .ok (.aload_n 0, 1) := by decide +kernel
theorem dX10_worth_12 : decode cX10_worth 12 = .ok (.aload_n 0, 1) := by decide +kernel
theorem dX10_worth_13 : decode cX10_worth 13 = .ok (.invokevirtual 151, 3) := by decide +kernel
theorem dX10_worth_16 : decode cX10_worth 16 = .ok (.iload_n 1, 1) := by decide +kernel
theorem dX10_worth_17 : decode cX10_worth 17 = .ok (.invokevirtual 171, 3) := by decide +kernel
theorem dX10_worth_20 : decode cX10_worth 20 = .ok (.iadd, 1) := by decide +kernel
theorem dX10_worth_21 : decode cX10_worth 21 = .ok (.goto 4, 3) := by decide +kernel
theorem dX10_worth_24 : decode cX10_worth 24 = .ok (.iconst (-1), 1) := by decide +kernel
theorem dX10_worth_25 : decode cX10_worth 25 = .ok (.ireturn, 1) := by decide +kernel
theorem dX10_at_0 : decode cX10_at 0 = .ok (.aload_n 0, 1) := by decide +kernel
theorem dX10_at_1 : decode cX10_at 1 = .ok (.iload_n 1, 1) := by decide +kernel
theorem dX10_at_2 : decode cX10_at 2 = .ok (.invokevirtual 146, 3) := by decide +kernel
theorem dX10_at_5 : decode cX10_at 5 = .ok (.ifCond .eq 12, 3) := by decide +kernel
theorem dX10_at_8 : decode cX10_at 8 = .ok (.aload_n 0, 1) := by decide +kernel
theorem dX10_at_9 : decode cX10_at 9 = .ok (.getfield 31, 3) := by decide +kernel
theorem dX10_at_12 : decode cX10_at 12 = .ok (.iload_n 1, 1) := by decide +kernel
theorem dX10_at_13 : decode cX10_at 13 = .ok (.iaload, 1) := by decide +kernel
theorem dX10_at_14 : decode cX10_at 14 = .ok (.goto 4, 3) := by decide +kernel
theorem dX10_at_17 : decode cX10_at 17 = .ok (.iconst (-1), 1) := by decide +kernel
theorem dX10_at_18 : decode cX10_at 18 = .ok (.ireturn, 1) := by decide +kernel
theorem dX10_agrees_0 : decode cX10_agrees 0 = .ok (.iload_n 0, 1) := by decide +kernel
theorem dX10_agrees_1 : decode cX10_agrees 1 = .ok (.tableswitch 69 0 3 #[31, 42, 53, 67], 31) := by decide +kernel
theorem dX10_agrees_32 : decode cX10_agrees 32 = .ok (.iload_n 2, 1) := by decide +kernel
theorem dX10_agrees_33 : decode cX10_agrees 33 = .ok (.iload_n 1, 1) := by decide +kernel
theorem dX10_agrees_34 : decode cX10_agrees 34 = .ok (.if_icmp .le 7, 3) := by decide +kernel
theorem dX10_agrees_37 : decode cX10_agrees 37 = .ok (.iconst 1, 1) := by decide +kernel
theorem dX10_agrees_38 : decode cX10_agrees 38 = .ok (.goto 4, 3) := by decide +kernel
theorem dX10_agrees_41 : decode cX10_agrees 41 = .ok (.iconst 0, 1) := by decide +kernel
theorem dX10_agrees_42 : decode cX10_agrees 42 = .ok (.ireturn, 1) := by decide +kernel
theorem dX10_agrees_43 : decode cX10_agrees 43 = .ok (.iload_n 2, 1) := by decide +kernel
theorem dX10_agrees_44 : decode cX10_agrees 44 = .ok (.iload_n 1, 1) := by decide +kernel
theorem dX10_agrees_45 : decode cX10_agrees 45 = .ok (.if_icmp .lt 7, 3) := by decide +kernel
theorem dX10_agrees_48 : decode cX10_agrees 48 = .ok (.iconst 1, 1) := by decide +kernel
theorem dX10_agrees_49 : decode cX10_agrees 49 = .ok (.goto 4, 3) := by decide +kernel
theorem dX10_agrees_52 : decode cX10_agrees 52 = .ok (.iconst 0, 1) := by decide +kernel
theorem dX10_agrees_53 : decode cX10_agrees 53 = .ok (.ireturn, 1) := by decide +kernel
theorem dX10_agrees_54 : decode cX10_agrees 54 = .ok (.iload_n 2, 1) := by decide +kernel
theorem dX10_agrees_55 : decode cX10_agrees 55 = .ok (.iload_n 1, 1) := by decide +kernel
theorem dX10_agrees_56 : decode cX10_agrees 56 = .ok (.bipush 10, 2) := by decide +kernel
theorem dX10_agrees_58 : decode cX10_agrees 58 = .ok (.iadd, 1) := by decide +kernel
theorem dX10_agrees_59 : decode cX10_agrees 59 = .ok (.if_icmp .lt 7, 3) := by decide +kernel
theorem dX10_agrees_62 : decode cX10_agrees 62 = .ok (.iconst 1, 1) := by decide +kernel
theorem dX10_agrees_63 : decode cX10_agrees 63 = .ok (.goto 4, 3) := by decide +kernel
theorem dX10_agrees_66 : decode cX10_agrees 66 = .ok (.iconst 0, 1) := by decide +kernel
theorem dX10_agrees_67 : decode cX10_agrees 67 = .ok (.ireturn, 1) := by decide +kernel
theorem dX10_agrees_68 : decode cX10_agrees 68 = .ok (.iconst 0, 1) := by decide +kernel
theorem dX10_agrees_69 : decode cX10_agrees 69 = .ok (.ireturn, 1) := by decide +kernel
theorem dX10_agrees_70 : decode cX10_agrees 70 = .ok (.iconst 1, 1) := by decide +kernel
theorem dX10_agrees_71 : decode cX10_agrees 71 = .ok (.ireturn, 1) := by decide +kernel
theorem dX10_changeMany_0 : decode cX10_changeMany 0 = .ok (.aload_n 0, 1) := by decide +kernel
theorem dX10_changeMany_1 : decode cX10_changeMany 1 = .ok (.getfield 28, 3) := by decide +kernel
theorem dX10_changeMany_4 : decode cX10_changeMany 4 = .ok (.iconst 0, 1) := by decide +kernel
theorem dX10_changeMany_5 : decode cX10_changeMany 5 = .ok (.iaload, 1) := by decide +kernel
theorem dX10_changeMany_6 : decode cX10_changeMany 6 = .ok (.iconst 1, 1) := by decide +kernel
theorem dX10_changeMany_7 : decode cX10_changeMany 7 = .ok (.if_icmp .ne 12, 3) := by decide +kernel
theorem dX10_changeMany_10 : decode cX10_changeMany 10 = .ok (.aload_n 0, 1) := by decide +kernel
theorem dX10_changeMany_11 : decode cX10_changeMany 11 = .ok (.getfield 13, 3) := by decide +kernel
theorem dX10_changeMany_14 : decode cX10_changeMany 14 = .ok (.iconst 0, 1) := by decide +kernel
theorem dX10_changeMany_15 : decode cX10_changeMany 15 = .ok (.iaload, 1) := by decide +kernel
theorem dX10_changeMany_16 : decode cX10_changeMany 16 = .ok (.goto 11, 3) := by decide +kernel
theorem dX10_changeMany_19 : decode cX10_changeMany 19 = .ok (.aload_n 0, 1) := by decide +kernel
theorem dX10_changeMany_20 : decode cX10_changeMany 20 = .ok (.getfield 13, 3) := by decide +kernel
theorem dX10_changeMany_23 : decode cX10_changeMany 23 = .ok (.iconst 0, 1) := by decide +kernel
theorem dX10_changeMany_24 : decode cX10_changeMany 24 = .ok (.iaload, 1) := by decide +kernel
theorem dX10_changeMany_25 : decode cX10_changeMany 25 = .ok (.iconst 1, 1) := by decide +kernel
theorem dX10_changeMany_26 : decode cX10_changeMany 26 = .ok (.isub, 1) := by decide +kernel
theorem dX10_changeMany_27 : decode cX10_changeMany 27 = .ok (.ireturn, 1) := by decide +kernel
theorem dX10_isChange_0 : decode cX10_isChange 0 = .ok (.iload_n 1, 1) := by decide +kernel
theorem dX10_isChange_1 : decode cX10_isChange 1 = .ok (.i2l, 1) := by decide +kernel
theorem dX10_isChange_2 : decode cX10_isChange 2 = .ok (.lconst 0, 1) := by decide +kernel
theorem dX10_isChange_3 : decode cX10_isChange 3 = .ok (.aload_n 0, 1) := by decide +kernel
theorem dX10_isChange_4 : decode cX10_isChange 4 = .ok (.invokevirtual 174, 3) := by decide +kernel
theorem dX10_isChange_7 : decode cX10_isChange 7 = .ok (.iconst 1, 1) := by decide +kernel
theorem dX10_isChange_8 : decode cX10_isChange 8 = .ok (.isub, 1) := by decide +kernel
theorem dX10_isChange_9 : decode cX10_isChange 9 = .ok (.i2l, 1) := by decide +kernel
theorem dX10_isChange_10 : decode cX10_isChange 10 = .ok (.invokestatic 90, 3) := by decide +kernel
theorem dX10_isChange_13 : decode cX10_isChange 13 = .ok (.ireturn, 1) := by decide +kernel
theorem dX10_isRound_0 : decode cX10_isRound 0 = .ok (.aload_n 0, 1) := by decide +kernel
theorem dX10_isRound_1 : decode cX10_isRound 1 = .ok (.getfield 13, 3) := by decide +kernel
theorem dX10_isRound_4 : decode cX10_isRound 4 = .ok (.iconst 0, 1) := by decide +kernel
theorem dX10_isRound_5 : decode cX10_isRound 5 = .ok (.iaload, 1) := by decide +kernel
theorem dX10_isRound_6 : decode cX10_isRound 6 = .ok (.iconst 3, 1) := by decide +kernel
theorem dX10_isRound_7 : decode cX10_isRound 7 = .ok (.if_icmp .lt 47, 3) := by decide +kernel
theorem dX10_isRound_10 : decode cX10_isRound 10 = .ok (.iload_n 1, 1) := by decide +kernel
theorem dX10_isRound_11 : decode cX10_isRound 11 = .ok (.i2l, 1) := by decide +kernel
theorem dX10_isRound_12 : decode cX10_isRound 12 = .ok (.lconst 0, 1) := by decide +kernel
theorem dX10_isRound_13 : decode cX10_isRound 13 = .ok (.aload_n 0, 1) := by decide +kernel
theorem dX10_isRound_14 : decode cX10_isRound 14 = .ok (.getfield 28, 3) := by decide +kernel
theorem dX10_isRound_17 : decode cX10_isRound 17 = .ok (.iconst 0, 1) := by decide +kernel
theorem dX10_isRound_18 : decode cX10_isRound 18 = .ok (.iaload, 1) := by decide +kernel
theorem dX10_isRound_19 : decode cX10_isRound 19 = .ok (.iconst 1, 1) := by decide +kernel
theorem dX10_isRound_20 : decode cX10_isRound 20 = .ok (.if_icmp .ne 15, 3) := by decide +kernel
theorem dX10_isRound_23 : decode cX10_isRound 23 = .ok (.aload_n 0, 1) := by decide +kernel
theorem dX10_isRound_24 : decode cX10_isRound 24 = .ok (.getfield 13, 3) := by decide +kernel
theorem dX10_isRound_27 : decode cX10_isRound 27 = .ok (.iconst 0, 1) := by decide +kernel
theorem dX10_isRound_28 : decode cX10_isRound 28 = .ok (.iaload, 1) := by decide +kernel
theorem dX10_isRound_29 : decode cX10_isRound 29 = .ok (.iconst 1, 1) := by decide +kernel
theorem dX10_isRound_30 : decode cX10_isRound 30 = .ok (.isub, 1) := by decide +kernel
theorem dX10_isRound_31 : decode cX10_isRound 31 = .ok (.i2l, 1) := by decide +kernel
theorem dX10_isRound_32 : decode cX10_isRound 32 = .ok (.goto 12, 3) := by decide +kernel
theorem dX10_isRound_35 : decode cX10_isRound 35 = .ok (.aload_n 0, 1) := by decide +kernel
theorem dX10_isRound_36 : decode cX10_isRound 36 = .ok (.getfield 13, 3) := by decide +kernel
theorem dX10_isRound_39 : decode cX10_isRound 39 = .ok (.iconst 0, 1) := by decide +kernel
theorem dX10_isRound_40 : decode cX10_isRound 40 = .ok (.iaload, 1) := by decide +kernel
theorem dX10_isRound_41 : decode cX10_isRound 41 = .ok (.iconst 3, 1) := by decide +kernel
theorem dX10_isRound_42 : decode cX10_isRound 42 = .ok (.isub, 1) := by decide +kernel
theorem dX10_isRound_43 : decode cX10_isRound 43 = .ok (.i2l, 1) := by decide +kernel
theorem dX10_isRound_44 : decode cX10_isRound 44 = .ok (.invokestatic 90, 3) := by decide +kernel
theorem dX10_isRound_47 : decode cX10_isRound 47 = .ok (.ifCond .eq 7, 3) := by decide +kernel
theorem dX10_isRound_50 : decode cX10_isRound 50 = .ok (.iconst 1, 1) := by decide +kernel
theorem dX10_isRound_51 : decode cX10_isRound 51 = .ok (.goto 4, 3) := by decide +kernel
theorem dX10_isRound_54 : decode cX10_isRound 54 = .ok (.iconst 0, 1) := by decide +kernel
theorem dX10_isRound_55 : decode cX10_isRound 55 = .ok (.ireturn, 1) := by decide +kernel
theorem dX10_behind_0 : decode cX10_behind 0 = .ok (.aload_n 0, 1) := by decide +kernel
theorem dX10_behind_1 : decode cX10_behind 1 = .ok (.getfield 13, 3) := by decide +kernel
theorem dX10_behind_4 : decode cX10_behind 4 = .ok (.iconst 0, 1) := by decide +kernel
theorem dX10_behind_5 : decode cX10_behind 5 = .ok (.iaload, 1) := by decide +kernel
theorem dX10_behind_6 : decode cX10_behind 6 = .ok (.istore 4, 2) := by decide +kernel
theorem dX10_behind_8 : decode cX10_behind 8 = .ok (.iconst 0, 1) := by decide +kernel
theorem dX10_behind_9 : decode cX10_behind 9 = .ok (.istore 5, 2) := by decide +kernel
theorem dX10_behind_11 : decode cX10_behind 11 = .ok (.iload 5, 2) := by decide +kernel
theorem dX10_behind_13 : decode cX10_behind 13 = .ok (.iload 4, 2) := by decide +kernel
theorem dX10_behind_15 : decode cX10_behind 15 = .ok (.if_icmp .ge 23, 3) := by decide +kernel
theorem dX10_behind_18 : decode cX10_behind 18 = .ok (.aload_n 0, 1) := by decide +kernel
theorem dX10_behind_19 : decode cX10_behind 19 = .ok (.getfield 62, 3) := by decide +kernel
theorem dX10_behind_22 : decode cX10_behind 22 = .ok (.iload 5, 2) := by decide +kernel
theorem dX10_behind_24 : decode cX10_behind 24 = .ok (.aload_n 0, 1) := by decide +kernel
theorem dX10_behind_25 : decode cX10_behind 25 = .ok (.iload_n 1, 1) := by decide +kernel
theorem dX10_behind_26 : decode cX10_behind 26 = .ok (.iload 5, 2) := by decide +kernel
theorem dX10_behind_28 : decode cX10_behind 28 = .ok (.invokevirtual 165, 3) := by decide +kernel
theorem dX10_behind_31 : decode cX10_behind 31 = .ok (.iastore, 1) := by decide +kernel
theorem dX10_behind_32 : decode cX10_behind 32 = .ok (.iinc 5 1, 3) := by decide +kernel
theorem dX10_behind_35 : decode cX10_behind 35 = .ok (.goto (-24), 3) := by decide +kernel
theorem dX10_behind_38 : decode cX10_behind 38 = .ok (.iload_n 2, 1) := by decide +kernel
theorem dX10_behind_39 : decode cX10_behind 39 = .ok (.iconst 1, 1) := by decide +kernel
theorem dX10_behind_40 : decode cX10_behind 40 = .ok (.iadd, 1) := by decide +kernel
theorem dX10_behind_41 : decode cX10_behind 41 = .ok (.iload 4, 2) := by decide +kernel
theorem dX10_behind_43 : decode cX10_behind 43 = .ok (.irem, 1) := by decide +kernel
theorem dX10_behind_44 : decode cX10_behind 44 = .ok (.istore 5, 2) := by decide +kernel
theorem dX10_behind_46 : decode cX10_behind 46 = .ok (.iload_n 2, 1) := by decide +kernel
theorem dX10_behind_47 : decode cX10_behind 47 = .ok (.iconst 2, 1) := by decide +kernel
theorem dX10_behind_48 : decode cX10_behind 48 = .ok (.iadd, 1) := by decide +kernel
theorem dX10_behind_49 : decode cX10_behind 49 = .ok (.iload 4, 2) := by decide +kernel
theorem dX10_behind_51 : decode cX10_behind 51 = .ok (.irem, 1) := by decide +kernel
theorem dX10_behind_52 : decode cX10_behind 52 = .ok (.istore 6, 2) := by decide +kernel
theorem dX10_behind_54 : decode cX10_behind 54 = .ok (.iload_n 3, 1) := by decide +kernel
theorem dX10_behind_55 : decode cX10_behind 55 = .ok (.ifCond .eq 46, 3) := by decide +kernel
theorem dX10_behind_58 : decode cX10_behind 58 = .ok (.aload_n 0, 1) := by decide +kernel
theorem dX10_behind_59 : decode cX10_behind 59 = .ok (.getfield 62, 3) := by decide +kernel
theorem dX10_behind_62 : decode cX10_behind 62 = .ok (.iload 5, 2) := by decide +kernel
theorem dX10_behind_64 : decode cX10_behind 64 = .ok (.aload_n 0, 1) := by decide +kernel
theorem dX10_behind_65 : decode cX10_behind 65 = .ok (.iload_n 1, 1) := by decide +kernel
theorem dX10_behind_66 : decode cX10_behind 66 = .ok (.iload_n 2, 1) := by decide +kernel
theorem dX10_behind_67 : decode cX10_behind 67 = .ok (.invokevirtual 165, 3) := by decide +kernel
theorem dX10_behind_70 : decode cX10_behind 70 = .ok (.iastore, 1) := by decide +kernel
theorem dX10_behind_71 : decode cX10_behind 71 = .ok (.aload_n 0, 1) := by decide +kernel
theorem dX10_behind_72 : decode cX10_behind 72 = .ok (.getfield 62, 3) := by decide +kernel
theorem dX10_behind_75 : decode cX10_behind 75 = .ok (.iload 6, 2) := by decide +kernel
theorem dX10_behind_77 : decode cX10_behind 77 = .ok (.aload_n 0, 1) := by decide +kernel
theorem dX10_behind_78 : decode cX10_behind 78 = .ok (.iload_n 1, 1) := by decide +kernel
theorem dX10_behind_79 : decode cX10_behind 79 = .ok (.iload 5, 2) := by decide +kernel
theorem dX10_behind_81 : decode cX10_behind 81 = .ok (.invokevirtual 165, 3) := by decide +kernel
theorem dX10_behind_84 : decode cX10_behind 84 = .ok (.iastore, 1) := by decide +kernel
theorem dX10_behind_85 : decode cX10_behind 85 = .ok (.aload_n 0, 1) := by decide +kernel
theorem dX10_behind_86 : decode cX10_behind 86 = .ok (.getfield 62, 3) := by decide +kernel
theorem dX10_behind_89 : decode cX10_behind 89 = .ok (.iload_n 2, 1) := by decide +kernel
theorem dX10_behind_90 : decode cX10_behind 90 = .ok (.aload_n 0, 1) := by decide +kernel
theorem dX10_behind_91 : decode cX10_behind 91 = .ok (.iload_n 1, 1) := by decide +kernel
theorem dX10_behind_92 : decode cX10_behind 92 = .ok (.iload 6, 2) := by decide +kernel
theorem dX10_behind_94 : decode cX10_behind 94 = .ok (.invokevirtual 165, 3) := by decide +kernel
theorem dX10_behind_97 : decode cX10_behind 97 = .ok (.iastore, 1) := by decide +kernel
theorem dX10_behind_98 : decode cX10_behind 98 = .ok (.goto 29, 3) := by decide +kernel
theorem dX10_behind_101 : decode cX10_behind 101 = .ok (.aload_n 0, 1) := by decide +kernel
theorem dX10_behind_102 : decode cX10_behind 102 = .ok (.getfield 62, 3) := by decide +kernel
theorem dX10_behind_105 : decode cX10_behind 105 = .ok (.iload 5, 2) := by decide +kernel
theorem dX10_behind_107 : decode cX10_behind 107 = .ok (.aload_n 0, 1) := by decide +kernel
theorem dX10_behind_108 : decode cX10_behind 108 = .ok (.iload_n 1, 1) := by decide +kernel
theorem dX10_behind_109 : decode cX10_behind 109 = .ok (.iload_n 2, 1) := by decide +kernel
theorem dX10_behind_110 : decode cX10_behind 110 = .ok (.invokevirtual 165, 3) := by decide +kernel
theorem dX10_behind_113 : decode cX10_behind 113 = .ok (.iastore, 1) := by decide +kernel
theorem dX10_behind_114 : decode cX10_behind 114 = .ok (.aload_n 0, 1) := by decide +kernel
theorem dX10_behind_115 : decode cX10_behind 115 = .ok (.getfield 62, 3) := by decide +kernel
theorem dX10_behind_118 : decode cX10_behind 118 = .ok (.iload_n 2, 1) := by decide +kernel
theorem dX10_behind_119 : decode cX10_behind 119 = .ok (.aload_n 0, 1) := by decide +kernel
theorem dX10_behind_120 : decode cX10_behind 120 = .ok (.iload_n 1, 1) := by decide +kernel
theorem dX10_behind_121 : decode cX10_behind 121 = .ok (.iload 5, 2) := by decide +kernel
theorem dX10_behind_123 : decode cX10_behind 123 = .ok (.invokevirtual 165, 3) := by decide +kernel
theorem dX10_behind_126 : decode cX10_behind 126 = .ok (.iastore, 1) := by decide +kernel
theorem dX10_behind_127 : decode cX10_behind 127 = .ok (.aload_n 0, 1) := by decide +kernel
theorem dX10_behind_128 : decode cX10_behind 128 = .ok (.getfield 59, 3) := by decide +kernel
theorem dX10_behind_131 : decode cX10_behind 131 = .ok (.aload_n 0, 1) := by decide +kernel
theorem dX10_behind_132 : decode cX10_behind 132 = .ok (.aload_n 0, 1) := by decide +kernel
theorem dX10_behind_133 : decode cX10_behind 133 = .ok (.getfield 62, 3) := by decide +kernel
theorem dX10_behind_136 : decode cX10_behind 136 = .ok (.iconst 0, 1) := by decide +kernel
theorem dX10_behind_137 : decode cX10_behind 137 = .ok (.invokevirtual 161, 3) := by decide +kernel
theorem dX10_behind_140 : decode cX10_behind 140 = .ok (.iaload, 1) := by decide +kernel
theorem dX10_behind_141 : decode cX10_behind 141 = .ok (.ireturn, 1) := by decide +kernel
theorem dX10_doesSuit_0 : decode cX10_doesSuit 0 = .ok (.aload_n 0, 1) := by decide +kernel
theorem dX10_doesSuit_1 : decode cX10_doesSuit 1 = .ok (.iload_n 1, 1) := by decide +kernel
theorem dX10_doesSuit_2 : decode cX10_doesSuit 2 = .ok (.iload_n 2, 1) := by decide +kernel
theorem dX10_doesSuit_3 : decode cX10_doesSuit 3 = .ok (.iload_n 3, 1) := by decide +kernel
theorem dX10_doesSuit_4 : decode cX10_doesSuit 4 = .ok (.invokevirtual 177, 3) := by decide +kernel
theorem dX10_doesSuit_7 : decode cX10_doesSuit 7 = .ok (.istore 4, 2) := by decide +kernel
theorem dX10_doesSuit_9 : decode cX10_doesSuit 9 = .ok (.iconst 1, 1) := by decide +kernel
theorem dX10_doesSuit_10 : decode cX10_doesSuit 10 = .ok (.istore 5, 2) := by decide +kernel
theorem dX10_doesSuit_12 : decode cX10_doesSuit 12 = .ok (.iconst 0, 1) := by decide +kernel
theorem dX10_doesSuit_13 : decode cX10_doesSuit 13 = .ok (.istore 6, 2) := by decide +kernel
theorem dX10_doesSuit_15 : decode cX10_doesSuit 15 = .ok (.iload 6, 2) := by decide +kernel
theorem dX10_doesSuit_17 : decode cX10_doesSuit 17 = .ok (.iload_n 3, 1) := by decide +kernel
theorem dX10_doesSuit_18 : decode cX10_doesSuit 18 = .ok (.ifCond .eq 7, 3) := by decide +kernel
theorem dX10_doesSuit_21 : decode cX10_doesSuit 21 = .ok (.iconst 3, 1) := by decide +kernel
theorem dX10_doesSuit_22 : decode cX10_doesSuit 22 = .ok (.goto 4, 3) := by decide +kernel
theorem dX10_doesSuit_25 : decode cX10_doesSuit 25 = .ok (.iconst 2, 1) := by decide +kernel
theorem dX10_doesSuit_26 : decode cX10_doesSuit 26 = .ok (.if_icmp .ge 67, 3) := by decide +kernel
theorem dX10_doesSuit_29 : decode cX10_doesSuit 29 = .ok (.aload_n 0, 1) := by decide +kernel
theorem dX10_doesSuit_30 : decode cX10_doesSuit 30 = .ok (.iload_n 1, 1) := by decide +kernel
theorem dX10_doesSuit_31 : decode cX10_doesSuit 31 = .ok (.iload_n 2, 1) := by decide +kernel
theorem dX10_doesSuit_32 : decode cX10_doesSuit 32 = .ok (.iload 6, 2) := by decide +kernel
theorem dX10_doesSuit_34 : decode cX10_doesSuit 34 = .ok (.iadd, 1) := by decide +kernel
theorem dX10_doesSuit_35 : decode cX10_doesSuit 35 = .ok (.aload_n 0, 1) := by decide +kernel
theorem dX10_doesSuit_36 : decode cX10_doesSuit 36 = .ok (.getfield 13, 3) := by decide +kernel
theorem dX10_doesSuit_39 : decode cX10_doesSuit 39 = .ok (.iconst 0, 1) := by decide +kernel
theorem dX10_doesSuit_40 : decode cX10_doesSuit 40 = .ok (.iaload, 1) := by decide +kernel
theorem dX10_doesSuit_41 : decode cX10_doesSuit 41 = .ok (.irem, 1) := by decide +kernel
theorem dX10_doesSuit_42 : decode cX10_doesSuit 42 = .ok (.invokevirtual 165, 3) := by decide +kernel
theorem dX10_doesSuit_45 : decode cX10_doesSuit 45 = .ok (.istore 7, 2) := by decide +kernel
theorem dX10_doesSuit_47 : decode cX10_doesSuit 47 = .ok (.iload 5, 2) := by decide +kernel
theorem dX10_doesSuit_49 : decode cX10_doesSuit 49 = .ok (.ifCond .eq 35, 3) := by decide +kernel
theorem dX10_doesSuit_52 : decode cX10_doesSuit 52 = .ok (.aload_n 0, 1) := by decide +kernel
theorem dX10_doesSuit_53 : decode cX10_doesSuit 53 = .ok (.getfield 22, 3) := by decide +kernel
theorem dX10_doesSuit_56 : decode cX10_doesSuit 56 = .ok (.iload 7, 2) := by decide +kernel
theorem dX10_doesSuit_58 : decode cX10_doesSuit 58 = .ok (.iaload, 1) := by decide +kernel
theorem dX10_doesSuit_59 : decode cX10_doesSuit 59 = .ok (.aload_n 0, 1) := by decide +kernel
theorem dX10_doesSuit_60 : decode cX10_doesSuit 60 = .ok (.iload_n 1, 1) := by decide +kernel
theorem dX10_doesSuit_61 : decode cX10_doesSuit 61 = .ok (.iload 7, 2) := by decide +kernel
theorem dX10_doesSuit_63 : decode cX10_doesSuit 63 = .ok (.invokevirtual 171, 3) := by decide +kernel
theorem dX10_doesSuit_66 : decode cX10_doesSuit 66 = .ok (.aload_n 0, 1) := by decide +kernel
theorem dX10_doesSuit_67 : decode cX10_doesSuit 67 = .ok (.iload 4, 2) := by decide +kernel
theorem dX10_doesSuit_69 : decode cX10_doesSuit 69 = .ok (.iload 7, 2) := by decide +kernel
theorem dX10_doesSuit_71 : decode cX10_doesSuit 71 = .ok (.invokevirtual 171, 3) := by decide +kernel
theorem dX10_doesSuit_74 : decode cX10_doesSuit 74 = .ok (.invokestatic 181, 3) := by decide +kernel
theorem dX10_doesSuit_77 : decode cX10_doesSuit 77 = .ok (.ifCond .eq 7, 3) := by decide +kernel
theorem dX10_doesSuit_80 : decode cX10_doesSuit 80 = .ok (.iconst 1, 1) := by decide +kernel
theorem dX10_doesSuit_81 : decode cX10_doesSuit 81 = .ok (.goto 4, 3) := by decide +kernel
theorem dX10_doesSuit_84 : decode cX10_doesSuit 84 = .ok (.iconst 0, 1) := by decide +kernel
theorem dX10_doesSuit_85 : decode cX10_doesSuit 85 = .ok (.istore 5, 2) := by decide +kernel
theorem dX10_doesSuit_87 : decode cX10_doesSuit 87 = .ok (.iinc 6 1, 3) := by decide +kernel
theorem dX10_doesSuit_90 : decode cX10_doesSuit 90 = .ok (.goto (-75), 3) := by decide +kernel
theorem dX10_doesSuit_93 : decode cX10_doesSuit 93 = .ok (.iload 5, 2) := by decide +kernel
theorem dX10_doesSuit_95 : decode cX10_doesSuit 95 = .ok (.ireturn, 1) := by decide +kernel
theorem dX10_suits_0 : decode cX10_suits 0 = .ok (.iload_n 2, 1) := by decide +kernel
theorem dX10_suits_1 : decode cX10_suits 1 = .ok (.ifCond .eq 14, 3) := by decide +kernel
theorem dX10_suits_4 : decode cX10_suits 4 = .ok (.aload_n 0, 1) := by decide +kernel
theorem dX10_suits_5 : decode cX10_suits 5 = .ok (.iload_n 1, 1) := by decide +kernel
theorem dX10_suits_6 : decode cX10_suits 6 = .ok (.invokevirtual 185, 3) := by decide +kernel
theorem dX10_suits_9 : decode cX10_suits 9 = .ok (.ifCond .ne 16, 3) := by decide +kernel
theorem dX10_suits_12 : decode cX10_suits 12 = .ok (.goto 11, 3) := by decide +kernel
theorem dX10_suits_15 : decode cX10_suits 15 = .ok (.aload_n 0, 1) := by decide +kernel
theorem dX10_suits_16 : decode cX10_suits 16 = .ok (.iload_n 1, 1) := by decide +kernel
theorem dX10_suits_17 : decode cX10_suits 17 = .ok (.invokevirtual 188, 3) := by decide +kernel
theorem dX10_suits_20 : decode cX10_suits 20 = .ok (.ifCond .ne 5, 3) := by decide +kernel
theorem dX10_suits_23 : decode cX10_suits 23 = .ok (.iconst (-1), 1) := by decide +kernel
theorem dX10_suits_24 : decode cX10_suits 24 = .ok (.ireturn, 1) := by decide +kernel
theorem dX10_suits_25 : decode cX10_suits 25 = .ok (.aload_n 0, 1) := by decide +kernel
theorem dX10_suits_26 : decode cX10_suits 26 = .ok (.aload_n 0, 1) := by decide +kernel
theorem dX10_suits_27 : decode cX10_suits 27 = .ok (.invokevirtual 151, 3) := by decide +kernel
theorem dX10_suits_30 : decode cX10_suits 30 = .ok (.iload_n 1, 1) := by decide +kernel
theorem dX10_suits_31 : decode cX10_suits 31 = .ok (.iload_n 2, 1) := by decide +kernel
theorem dX10_suits_32 : decode cX10_suits 32 = .ok (.invokevirtual 191, 3) := by decide +kernel
theorem dX10_suits_35 : decode cX10_suits 35 = .ok (.ifCond .eq 7, 3) := by decide +kernel
theorem dX10_suits_38 : decode cX10_suits 38 = .ok (.iconst 1, 1) := by decide +kernel
theorem dX10_suits_39 : decode cX10_suits 39 = .ok (.goto 4, 3) := by decide +kernel
theorem dX10_suits_42 : decode cX10_suits 42 = .ok (.iconst 0, 1) := by decide +kernel
theorem dX10_suits_43 : decode cX10_suits 43 = .ok (.ireturn, 1) := by decide +kernel
theorem dX10_go_0 : decode cX10_go 0 = .ok (.iconst 0, 1) := by decide +kernel
theorem dX10_go_1 : decode cX10_go 1 = .ok (.istore_n 2, 1) := by decide +kernel
theorem dX10_go_2 : decode cX10_go 2 = .ok (.iload_n 2, 1) := by decide +kernel
theorem dX10_go_3 : decode cX10_go 3 = .ok (.aload_n 0, 1) := by decide +kernel
theorem dX10_go_4 : decode cX10_go 4 = .ok (.getfield 13, 3) := by decide +kernel
theorem dX10_go_7 : decode cX10_go 7 = .ok (.iconst 0, 1) := by decide +kernel
theorem dX10_go_8 : decode cX10_go 8 = .ok (.iaload, 1) := by decide +kernel
theorem dX10_go_9 : decode cX10_go 9 = .ok (.if_icmp .ge 21, 3) := by decide +kernel
theorem dX10_go_12 : decode cX10_go 12 = .ok (.aload_n 0, 1) := by decide +kernel
theorem dX10_go_13 : decode cX10_go 13 = .ok (.getfield 31, 3) := by decide +kernel
theorem dX10_go_16 : decode cX10_go 16 = .ok (.iload_n 2, 1) := by decide +kernel
theorem dX10_go_17 : decode cX10_go 17 = .ok (.aload_n 0, 1) := by decide +kernel
theorem dX10_go_18 : decode cX10_go 18 = .ok (.iload_n 1, 1) := by decide +kernel
theorem dX10_go_19 : decode cX10_go 19 = .ok (.iload_n 2, 1) := by decide +kernel
theorem dX10_go_20 : decode cX10_go 20 = .ok (.invokevirtual 165, 3) := by decide +kernel
theorem dX10_go_23 : decode cX10_go 23 = .ok (.iastore, 1) := by decide +kernel
theorem dX10_go_24 : decode cX10_go 24 = .ok (.iinc 2 1, 3) := by decide +kernel
theorem dX10_go_27 : decode cX10_go 27 = .ok (.goto (-25), 3) := by decide +kernel
theorem dX10_go_30 : decode cX10_go 30 = .ok (.return_, 1) := by decide +kernel
theorem dX10_doIt_0 : decode cX10_doIt 0 = .ok (.aload_n 0, 1) := by decide +kernel
theorem dX10_doIt_1 : decode cX10_doIt 1 = .ok (.invokevirtual 151, 3) := by decide +kernel
theorem dX10_doIt_4 : decode cX10_doIt 4 = .ok (.istore_n 3, 1) := by decide +kernel
theorem dX10_doIt_5 : decode cX10_doIt 5 = .ok (.aload_n 0, 1) := by decide +kernel
theorem dX10_doIt_6 : decode cX10_doIt 6 = .ok (.iload_n 3, 1) := by decide +kernel
theorem dX10_doIt_7 : decode cX10_doIt 7 = .ok (.iload_n 1, 1) := by decide +kernel
theorem dX10_doIt_8 : decode cX10_doIt 8 = .ok (.iload_n 2, 1) := by decide +kernel
theorem dX10_doIt_9 : decode cX10_doIt 9 = .ok (.invokevirtual 191, 3) := by decide +kernel
theorem dX10_doIt_12 : decode cX10_doIt 12 = .ok (.ifCond .ne 6, 3) := by decide +kernel
theorem dX10_doIt_15 : decode cX10_doIt 15 = .ok (.bipush (-2), 2) := by decide +kernel
theorem dX10_doIt_17 : decode cX10_doIt 17 = .ok (.ireturn, 1) := by decide +kernel
theorem dX10_doIt_18 : decode cX10_doIt 18 = .ok (.aload_n 0, 1) := by decide +kernel
theorem dX10_doIt_19 : decode cX10_doIt 19 = .ok (.getfield 131, 3) := by decide +kernel
theorem dX10_doIt_22 : decode cX10_doIt 22 = .ok (.bipush 8, 2) := by decide +kernel
theorem dX10_doIt_24 : decode cX10_doIt 24 = .ok (.if_icmp .ne 45, 3) := by decide +kernel
theorem dX10_doIt_27 : decode cX10_doIt 27 = .ok (.iconst 1, 1) := by decide +kernel
theorem dX10_doIt_28 : decode cX10_doIt 28 = .ok (.istore 4, 2) := by decide +kernel
theorem dX10_doIt_30 : decode cX10_doIt 30 = .ok (.iload 4, 2) := by decide +kernel
theorem dX10_doIt_32 : decode cX10_doIt 32 = .ok (.bipush 8, 2) := by decide +kernel
theorem dX10_doIt_34 : decode cX10_doIt 34 = .ok (.if_icmp .ge 25, 3) := by decide +kernel
theorem dX10_doIt_37 : decode cX10_doIt 37 = .ok (.aload_n 0, 1) := by decide +kernel
theorem dX10_doIt_38 : decode cX10_doIt 38 = .ok (.getfield 34, 3) := by decide +kernel
theorem dX10_doIt_41 : decode cX10_doIt 41 = .ok (.iload 4, 2) := by decide +kernel
theorem dX10_doIt_43 : decode cX10_doIt 43 = .ok (.iconst 1, 1) := by decide +kernel
theorem dX10_doIt_44 : decode cX10_doIt 44 = .ok (.isub, 1) := by decide +kernel
theorem dX10_doIt_45 : decode cX10_doIt 45 = .ok (.aload_n 0, 1) := by decide +kernel
theorem dX10_doIt_46 : decode cX10_doIt 46 = .ok (.getfield 34, 3) := by decide +kernel
theorem dX10_doIt_49 : decode cX10_doIt 49 = .ok (.iload 4, 2) := by decide +kernel
theorem dX10_doIt_51 : decode cX10_doIt 51 = .ok (.iaload, 1) := by decide +kernel
theorem dX10_doIt_52 : decode cX10_doIt 52 = .ok (.iastore, 1) := by decide +kernel
theorem dX10_doIt_53 : decode cX10_doIt 53 = .ok (.iinc 4 1, 3) := by decide +kernel
theorem dX10_doIt_56 : decode cX10_doIt 56 = .ok (.goto (-26), 3) := by decide +kernel
theorem dX10_doIt_59 : decode cX10_doIt 59 = .ok (.aload_n 0, 1) := by decide +kernel
theorem dX10_doIt_60 : decode cX10_doIt 60 = .ok (.dup, 1) := by decide +kernel
theorem dX10_doIt_61 : decode cX10_doIt 61 = .ok (.getfield 131, 3) := by decide +kernel
theorem dX10_doIt_64 : decode cX10_doIt 64 = .ok (.iconst 1, 1) := by decide +kernel
theorem dX10_doIt_65 : decode cX10_doIt 65 = .ok (.isub, 1) := by decide +kernel
theorem dX10_doIt_66 : decode cX10_doIt 66 = .ok (.putfield 131, 3) := by decide +kernel
theorem dX10_doIt_69 : decode cX10_doIt 69 = .ok (.aload_n 0, 1) := by decide +kernel
theorem dX10_doIt_70 : decode cX10_doIt 70 = .ok (.getfield 34, 3) := by decide +kernel
theorem dX10_doIt_73 : decode cX10_doIt 73 = .ok (.aload_n 0, 1) := by decide +kernel
theorem dX10_doIt_74 : decode cX10_doIt 74 = .ok (.getfield 131, 3) := by decide +kernel
theorem dX10_doIt_77 : decode cX10_doIt 77 = .ok (.iload_n 3, 1) := by decide +kernel
theorem dX10_doIt_78 : decode cX10_doIt 78 = .ok (.iastore, 1) := by decide +kernel
theorem dX10_doIt_79 : decode cX10_doIt 79 = .ok (.aload_n 0, 1) := by decide +kernel
theorem dX10_doIt_80 : decode cX10_doIt 80 = .ok (.dup, 1) := by decide +kernel
theorem dX10_doIt_81 : decode cX10_doIt 81 = .ok (.getfield 131, 3) := by decide +kernel
theorem dX10_doIt_84 : decode cX10_doIt 84 = .ok (.iconst 1, 1) := by decide +kernel
theorem dX10_doIt_85 : decode cX10_doIt 85 = .ok (.iadd, 1) := by decide +kernel
theorem dX10_doIt_86 : decode cX10_doIt 86 = .ok (.putfield 131, 3) := by decide +kernel
theorem dX10_doIt_89 : decode cX10_doIt 89 = .ok (.aload_n 0, 1) := by decide +kernel
theorem dX10_doIt_90 : decode cX10_doIt 90 = .ok (.aload_n 0, 1) := by decide +kernel
theorem dX10_doIt_91 : decode cX10_doIt 91 = .ok (.iload_n 3, 1) := by decide +kernel
theorem dX10_doIt_92 : decode cX10_doIt 92 = .ok (.iload_n 1, 1) := by decide +kernel
theorem dX10_doIt_93 : decode cX10_doIt 93 = .ok (.iload_n 2, 1) := by decide +kernel
theorem dX10_doIt_94 : decode cX10_doIt 94 = .ok (.invokevirtual 177, 3) := by decide +kernel
theorem dX10_doIt_97 : decode cX10_doIt 97 = .ok (.invokevirtual 195, 3) := by decide +kernel
theorem dX10_doIt_100 : decode cX10_doIt 100 = .ok (.aload_n 0, 1) := by decide +kernel
theorem dX10_doIt_101 : decode cX10_doIt 101 = .ok (.getfield 31, 3) := by decide +kernel
theorem dX10_doIt_104 : decode cX10_doIt 104 = .ok (.iload_n 1, 1) := by decide +kernel
theorem dX10_doIt_105 : decode cX10_doIt 105 = .ok (.iaload, 1) := by decide +kernel
theorem dX10_doIt_106 : decode cX10_doIt 106 = .ok (.ireturn, 1) := by decide +kernel
theorem dX10_change_0 : decode cX10_change 0 = .ok (.aload_n 0, 1) := by decide +kernel
theorem dX10_change_1 : decode cX10_change 1 = .ok (.iload_n 1, 1) := by decide +kernel
theorem dX10_change_2 : decode cX10_change 2 = .ok (.invokevirtual 188, 3) := by decide +kernel
theorem dX10_change_5 : decode cX10_change 5 = .ok (.ifCond .eq 12, 3) := by decide +kernel
theorem dX10_change_8 : decode cX10_change 8 = .ok (.aload_n 0, 1) := by decide +kernel
theorem dX10_change_9 : decode cX10_change 9 = .ok (.iload_n 1, 1) := by decide +kernel
theorem dX10_change_10 : decode cX10_change 10 = .ok (.iconst 0, 1) := by decide +kernel
theorem dX10_change_11 : decode cX10_change 11 = .ok (.invokevirtual 198, 3) := by decide +kernel
theorem dX10_change_14 : decode cX10_change 14 = .ok (.goto 4, 3) := by decide +kernel
theorem dX10_change_17 : decode cX10_change 17 = .ok (.iconst (-1), 1) := by decide +kernel
theorem dX10_change_18 : decode cX10_change 18 = .ok (.ireturn, 1) := by decide +kernel
theorem dX10_round_0 : decode cX10_round 0 = .ok (.aload_n 0, 1) := by decide +kernel
theorem dX10_round_1 : decode cX10_round 1 = .ok (.iload_n 1, 1) := by decide +kernel
theorem dX10_round_2 : decode cX10_round 2 = .ok (.invokevirtual 185, 3) := by decide +kernel
theorem dX10_round_5 : decode cX10_round 5 = .ok (.ifCond .eq 12, 3) := by decide +kernel
theorem dX10_round_8 : decode cX10_round 8 = .ok (.aload_n 0, 1) := by decide +kernel
theorem dX10_round_9 : decode cX10_round 9 = .ok (.iload_n 1, 1) := by decide +kernel
theorem dX10_round_10 : decode cX10_round 10 = .ok (.iconst 1, 1) := by decide +kernel
theorem dX10_round_11 : decode cX10_round 11 = .ok (.invokevirtual 198, 3) := by decide +kernel
theorem dX10_round_14 : decode cX10_round 14 = .ok (.goto 4, 3) := by decide +kernel
theorem dX10_round_17 : decode cX10_round 17 = .ok (.iconst (-1), 1) := by decide +kernel
theorem dX10_round_18 : decode cX10_round 18 = .ok (.ireturn, 1) := by decide +kernel
theorem dX10_undo_0 : decode cX10_undo 0 = .ok (.aload_n 0, 1) := by decide +kernel
theorem dX10_undo_1 : decode cX10_undo 1 = .ok (.getfield 131, 3) := by decide +kernel
theorem dX10_undo_4 : decode cX10_undo 4 = .ok (.ifCond .ne 6, 3) := by decide +kernel
theorem dX10_undo_7 : decode cX10_undo 7 = .ok (.bipush (-2), 2) := by decide +kernel
theorem dX10_undo_9 : decode cX10_undo 9 = .ok (.ireturn, 1) := by decide +kernel
theorem dX10_undo_10 : decode cX10_undo 10 = .ok (.aload_n 0, 1) := by decide +kernel
theorem dX10_undo_11 : decode cX10_undo 11 = .ok (.dup, 1) := by decide +kernel
theorem dX10_undo_12 : decode cX10_undo 12 = .ok (.getfield 131, 3) := by decide +kernel
theorem dX10_undo_15 : decode cX10_undo 15 = .ok (.iconst 1, 1) := by decide +kernel
theorem dX10_undo_16 : decode cX10_undo 16 = .ok (.isub, 1) := by decide +kernel
theorem dX10_undo_17 : decode cX10_undo 17 = .ok (.putfield 131, 3) := by decide +kernel
theorem dX10_undo_20 : decode cX10_undo 20 = .ok (.aload_n 0, 1) := by decide +kernel
theorem dX10_undo_21 : decode cX10_undo 21 = .ok (.aload_n 0, 1) := by decide +kernel
theorem dX10_undo_22 : decode cX10_undo 22 = .ok (.getfield 34, 3) := by decide +kernel
theorem dX10_undo_25 : decode cX10_undo 25 = .ok (.aload_n 0, 1) := by decide +kernel
theorem dX10_undo_26 : decode cX10_undo 26 = .ok (.getfield 131, 3) := by decide +kernel
theorem dX10_undo_29 : decode cX10_undo 29 = .ok (.iaload, 1) := by decide +kernel
theorem dX10_undo_30 : decode cX10_undo 30 = .ok (.invokevirtual 195, 3) := by decide +kernel
theorem dX10_undo_33 : decode cX10_undo 33 = .ok (.aload_n 0, 1) := by decide +kernel
theorem dX10_undo_34 : decode cX10_undo 34 = .ok (.getfield 131, 3) := by decide +kernel
theorem dX10_undo_37 : decode cX10_undo 37 = .ok (.ireturn, 1) := by decide +kernel
theorem dX10_tell_0 : decode cX10_tell 0 = .ok (.aload_n 0, 1) := by decide +kernel
theorem dX10_tell_1 : decode cX10_tell 1 = .ok (.iload_n 1, 1) := by decide +kernel
theorem dX10_tell_2 : decode cX10_tell 2 = .ok (.invokevirtual 188, 3) := by decide +kernel
theorem dX10_tell_5 : decode cX10_tell 5 = .ok (.ifCond .ne 5, 3) := by decide +kernel
theorem dX10_tell_8 : decode cX10_tell 8 = .ok (.iconst (-1), 1) := by decide +kernel
theorem dX10_tell_9 : decode cX10_tell 9 = .ok (.ireturn, 1) := by decide +kernel
theorem dX10_tell_10 : decode cX10_tell 10 = .ok (.aload_n 0, 1) := by decide +kernel
theorem dX10_tell_11 : decode cX10_tell 11 = .ok (.getfield 134, 3) := by decide +kernel
theorem dX10_tell_14 : decode cX10_tell 14 = .ok (.bipush 12, 2) := by decide +kernel
theorem dX10_tell_16 : decode cX10_tell 16 = .ok (.if_icmp .ne 6, 3) := by decide +kernel
theorem dX10_tell_19 : decode cX10_tell 19 = .ok (.bipush (-3), 2) := by decide +kernel
theorem dX10_tell_21 : decode cX10_tell 21 = .ok (.ireturn, 1) := by decide +kernel
theorem dX10_tell_22 : decode cX10_tell 22 = .ok (.aload_n 0, 1) := by decide +kernel
theorem dX10_tell_23 : decode cX10_tell 23 = .ok (.getfield 37, 3) := by decide +kernel
theorem dX10_tell_26 : decode cX10_tell 26 = .ok (.aload_n 0, 1) := by decide +kernel
theorem dX10_tell_27 : decode cX10_tell 27 = .ok (.getfield 134, 3) := by decide +kernel
theorem dX10_tell_30 : decode cX10_tell 30 = .ok (.iload_n 1, 1) := by decide +kernel
theorem dX10_tell_31 : decode cX10_tell 31 = .ok (.iastore, 1) := by decide +kernel
theorem dX10_tell_32 : decode cX10_tell 32 = .ok (.aload_n 0, 1) := by decide +kernel
theorem dX10_tell_33 : decode cX10_tell 33 = .ok (.dup, 1) := by decide +kernel
theorem dX10_tell_34 : decode cX10_tell 34 = .ok (.getfield 134, 3) := by decide +kernel
theorem dX10_tell_37 : decode cX10_tell 37 = .ok (.iconst 1, 1) := by decide +kernel
theorem dX10_tell_38 : decode cX10_tell 38 = .ok (.iadd, 1) := by decide +kernel
theorem dX10_tell_39 : decode cX10_tell 39 = .ok (.putfield 134, 3) := by decide +kernel
theorem dX10_tell_42 : decode cX10_tell 42 = .ok (.aload_n 0, 1) := by decide +kernel
theorem dX10_tell_43 : decode cX10_tell 43 = .ok (.getfield 134, 3) := by decide +kernel
theorem dX10_tell_46 : decode cX10_tell 46 = .ok (.ireturn, 1) := by decide +kernel
theorem dX10_noRow_0 : decode cX10_noRow 0 = .ok (.aload_n 0, 1) := by decide +kernel
theorem dX10_noRow_1 : decode cX10_noRow 1 = .ok (.getfield 134, 3) := by decide +kernel
theorem dX10_noRow_4 : decode cX10_noRow 4 = .ok (.istore_n 1, 1) := by decide +kernel
theorem dX10_noRow_5 : decode cX10_noRow 5 = .ok (.aload_n 0, 1) := by decide +kernel
theorem dX10_noRow_6 : decode cX10_noRow 6 = .ok (.iconst 0, 1) := by decide +kernel
theorem dX10_noRow_7 : decode cX10_noRow 7 = .ok (.putfield 134, 3) := by decide +kernel
theorem dX10_noRow_10 : decode cX10_noRow 10 = .ok (.iload_n 1, 1) := by decide +kernel
theorem dX10_noRow_11 : decode cX10_noRow 11 = .ok (.ireturn, 1) := by decide +kernel
theorem dX10_judge_0 : decode cX10_judge 0 = .ok (.aload_n 0, 1) := by decide +kernel
theorem dX10_judge_1 : decode cX10_judge 1 = .ok (.invokevirtual 151, 3) := by decide +kernel
theorem dX10_judge_4 : decode cX10_judge 4 = .ok (.istore_n 1, 1) := by decide +kernel
theorem dX10_judge_5 : decode cX10_judge 5 = .ok (.iconst 0, 1) := by decide +kernel
theorem dX10_judge_6 : decode cX10_judge 6 = .ok (.istore_n 2, 1) := by decide +kernel
theorem dX10_judge_7 : decode cX10_judge 7 = .ok (.iload_n 2, 1) := by decide +kernel
theorem dX10_judge_8 : decode cX10_judge 8 = .ok (.aload_n 0, 1) := by decide +kernel
theorem dX10_judge_9 : decode cX10_judge 9 = .ok (.getfield 134, 3) := by decide +kernel
theorem dX10_judge_12 : decode cX10_judge 12 = .ok (.if_icmp .ge 39, 3) := by decide +kernel
theorem dX10_judge_15 : decode cX10_judge 15 = .ok (.aload_n 0, 1) := by decide +kernel
theorem dX10_judge_16 : decode cX10_judge 16 = .ok (.iload_n 1, 1) := by decide +kernel
theorem dX10_judge_17 : decode cX10_judge 17 = .ok (.aload_n 0, 1) := by decide +kernel
theorem dX10_judge_18 : decode cX10_judge 18 = .ok (.getfield 37, 3) := by decide +kernel
theorem dX10_judge_21 : decode cX10_judge 21 = .ok (.iload_n 2, 1) := by decide +kernel
theorem dX10_judge_22 : decode cX10_judge 22 = .ok (.iaload, 1) := by decide +kernel
theorem dX10_judge_23 : decode cX10_judge 23 = .ok (.iconst 0, 1) := by decide +kernel
theorem dX10_judge_24 : decode cX10_judge 24 = .ok (.invokevirtual 191, 3) := by decide +kernel
theorem dX10_judge_27 : decode cX10_judge 27 = .ok (.ifCond .ne 5, 3) := by decide +kernel
theorem dX10_judge_30 : decode cX10_judge 30 = .ok (.iload_n 2, 1) := by decide +kernel
theorem dX10_judge_31 : decode cX10_judge 31 = .ok (.ireturn, 1) := by decide +kernel
theorem dX10_judge_32 : decode cX10_judge 32 = .ok (.aload_n 0, 1) := by decide +kernel
theorem dX10_judge_33 : decode cX10_judge 33 = .ok (.iload_n 1, 1) := by decide +kernel
theorem dX10_judge_34 : decode cX10_judge 34 = .ok (.aload_n 0, 1) := by decide +kernel
theorem dX10_judge_35 : decode cX10_judge 35 = .ok (.getfield 37, 3) := by decide +kernel
theorem dX10_judge_38 : decode cX10_judge 38 = .ok (.iload_n 2, 1) := by decide +kernel
theorem dX10_judge_39 : decode cX10_judge 39 = .ok (.iaload, 1) := by decide +kernel
theorem dX10_judge_40 : decode cX10_judge 40 = .ok (.iconst 0, 1) := by decide +kernel
theorem dX10_judge_41 : decode cX10_judge 41 = .ok (.invokevirtual 177, 3) := by decide +kernel
theorem dX10_judge_44 : decode cX10_judge 44 = .ok (.istore_n 1, 1) := by decide +kernel
theorem dX10_judge_45 : decode cX10_judge 45 = .ok (.iinc 2 1, 3) := by decide +kernel
theorem dX10_judge_48 : decode cX10_judge 48 = .ok (.goto (-41), 3) := by decide +kernel
theorem dX10_judge_51 : decode cX10_judge 51 = .ok (.bipush (-4), 2) := by decide +kernel
theorem dX10_judge_53 : decode cX10_judge 53 = .ok (.ireturn, 1) := by decide +kernel
theorem dX10_layWeb_0 : decode cX10_layWeb 0 = .ok (.iconst 0, 1) := by decide +kernel
theorem dX10_layWeb_1 : decode cX10_layWeb 1 = .ok (.istore_n 1, 1) := by decide +kernel
theorem dX10_layWeb_2 : decode cX10_layWeb 2 = .ok (.iload_n 1, 1) := by decide +kernel
theorem dX10_layWeb_3 : decode cX10_layWeb 3 = .ok (.aload_n 0, 1) := by decide +kernel
theorem dX10_layWeb_4 : decode cX10_layWeb 4 = .ok (.getfield 158, 3) := by decide +kernel
theorem dX10_layWeb_7 : decode cX10_layWeb 7 = .ok (.if_icmp .ge 58, 3) := by decide +kernel
theorem dX10_layWeb_10 : decode cX10_layWeb 10 = .ok (.iconst 0, 1) := by decide +kernel
theorem dX10_layWeb_11 : decode cX10_layWeb 11 = .ok (.istore_n 2, 1) := by decide +kernel
theorem dX10_layWeb_12 : decode cX10_layWeb 12 = .ok (.iload_n 2, 1) := by decide +kernel
theorem dX10_layWeb_13 : decode cX10_layWeb 13 = .ok (.aload_n 0, 1) := by decide +kernel
theorem dX10_layWeb_14 : decode cX10_layWeb 14 = .ok (.invokevirtual 174, 3) := by decide +kernel
theorem dX10_layWeb_17 : decode cX10_layWeb 17 = .ok (.if_icmp .ge 42, 3) := by decide +kernel
theorem dX10_layWeb_20 : decode cX10_layWeb 20 = .ok (.aload_n 0, 1) := by decide +kernel
theorem dX10_layWeb_21 : decode cX10_layWeb 21 = .ok (.getfield 65, 3) := by decide +kernel
theorem dX10_layWeb_24 : decode cX10_layWeb 24 = .ok (.bipush 6, 2) := by decide +kernel
theorem dX10_layWeb_26 : decode cX10_layWeb 26 = .ok (.iload_n 1, 1) := by decide +kernel
theorem dX10_layWeb_27 : decode cX10_layWeb 27 = .ok (.imul, 1) := by decide +kernel
theorem dX10_layWeb_28 : decode cX10_layWeb 28 = .ok (.iload_n 2, 1) := by decide +kernel
theorem dX10_layWeb_29 : decode cX10_layWeb 29 = .ok (.iadd, 1) := by decide +kernel
theorem dX10_layWeb_30 : decode cX10_layWeb 30 = .ok (.aload_n 0, 1) := by decide +kernel
theorem dX10_layWeb_31 : decode cX10_layWeb 31 = .ok (.iload_n 1, 1) := by decide +kernel
theorem dX10_layWeb_32 : decode cX10_layWeb 32 = .ok (.iload_n 2, 1) := by decide +kernel
theorem dX10_layWeb_33 : decode cX10_layWeb 33 = .ok (.iconst 0, 1) := by decide +kernel
theorem dX10_layWeb_34 : decode cX10_layWeb 34 = .ok (.invokevirtual 191, 3) := by decide +kernel
theorem dX10_layWeb_37 : decode cX10_layWeb 37 = .ok (.ifCond .eq 13, 3) := by decide +kernel
theorem dX10_layWeb_40 : decode cX10_layWeb 40 = .ok (.aload_n 0, 1) := by decide +kernel
theorem dX10_layWeb_41 : decode cX10_layWeb 41 = .ok (.iload_n 1, 1) := by decide +kernel
theorem dX10_layWeb_42 : decode cX10_layWeb 42 = .ok (.iload_n 2, 1) := by decide +kernel
theorem dX10_layWeb_43 : decode cX10_layWeb 43 = .ok (.iconst 0, 1) := by decide +kernel
theorem dX10_layWeb_44 : decode cX10_layWeb 44 = .ok (.invokevirtual 177, 3) := by decide +kernel
theorem dX10_layWeb_47 : decode cX10_layWeb 47 = .ok (.goto 5, 3) := by decide +kernel
theorem dX10_layWeb_50 : decode cX10_layWeb 50 = .ok (.bipush (-4), 2) := by decide +kernel
theorem dX10_layWeb_52 : decode cX10_layWeb 52 = .ok (.iastore, 1) := by decide +kernel
theorem dX10_layWeb_53 : decode cX10_layWeb 53 = .ok (.iinc 2 1, 3) := by decide +kernel
theorem dX10_layWeb_56 : decode cX10_layWeb 56 = .ok (.goto (-44), 3) := by decide +kernel
theorem dX10_layWeb_59 : decode cX10_layWeb 59 = .ok (.iinc 1 1, 3) := by decide +kernel
theorem dX10_layWeb_62 : decode cX10_layWeb 62 = .ok (.goto (-60), 3) := by decide +kernel
theorem dX10_layWeb_65 : decode cX10_layWeb 65 = .ok (.return_, 1) := by decide +kernel
theorem dX10_lowest_0 : decode cX10_lowest 0 = .ok (.iconst 0, 1) := by decide +kernel
theorem dX10_lowest_1 : decode cX10_lowest 1 = .ok (.istore_n 2, 1) := by decide +kernel
theorem dX10_lowest_2 : decode cX10_lowest 2 = .ok (.iload_n 2, 1) := by decide +kernel
theorem dX10_lowest_3 : decode cX10_lowest 3 = .ok (.aload_n 0, 1) := by decide +kernel
theorem dX10_lowest_4 : decode cX10_lowest 4 = .ok (.invokevirtual 174, 3) := by decide +kernel
theorem dX10_lowest_7 : decode cX10_lowest 7 = .ok (.if_icmp .ge 25, 3) := by decide +kernel
theorem dX10_lowest_10 : decode cX10_lowest 10 = .ok (.aload_n 0, 1) := by decide +kernel
theorem dX10_lowest_11 : decode cX10_lowest 11 = .ok (.getfield 65, 3) := by decide +kernel
theorem dX10_lowest_14 : decode cX10_lowest 14 = .ok (.bipush 6, 2) := by decide +kernel
theorem dX10_lowest_16 : decode cX10_lowest 16 = .ok (.iload_n 1, 1) := by decide +kernel
theorem dX10_lowest_17 : decode cX10_lowest 17 = .ok (.imul, 1) := by decide +kernel
theorem dX10_lowest_18 : decode cX10_lowest 18 = .ok (.iload_n 2, 1) := by decide +kernel
theorem dX10_lowest_19 : decode cX10_lowest 19 = .ok (.iadd, 1) := by decide +kernel
theorem dX10_lowest_20 : decode cX10_lowest 20 = .ok (.iaload, 1) := by decide +kernel
theorem dX10_lowest_21 : decode cX10_lowest 21 = .ok (.ifCond .lt 5, 3) := by decide +kernel
theorem dX10_lowest_24 : decode cX10_lowest 24 = .ok (.iload_n 2, 1) := by decide +kernel
theorem dX10_lowest_25 : decode cX10_lowest 25 = .ok (.ireturn, 1) := by decide +kernel
theorem dX10_lowest_26 : decode cX10_lowest 26 = .ok (.iinc 2 1, 3) := by decide +kernel
theorem dX10_lowest_29 : decode cX10_lowest 29 = .ok (.goto (-27), 3) := by decide +kernel
theorem dX10_lowest_32 : decode cX10_lowest 32 = .ok (.bipush (-4), 2) := by decide +kernel
theorem dX10_lowest_34 : decode cX10_lowest 34 = .ok (.ireturn, 1) := by decide +kernel
theorem dX10_rests_0 : decode cX10_rests 0 = .ok (.iload_n 1, 1) := by decide +kernel
theorem dX10_rests_1 : decode cX10_rests 1 = .ok (.iconst (-1), 1) := by decide +kernel
theorem dX10_rests_2 : decode cX10_rests 2 = .ok (.if_icmp .eq 13, 3) := by decide +kernel
theorem dX10_rests_5 : decode cX10_rests 5 = .ok (.aload_n 0, 1) := by decide +kernel
theorem dX10_rests_6 : decode cX10_rests 6 = .ok (.iload_n 1, 1) := by decide +kernel
theorem dX10_rests_7 : decode cX10_rests 7 = .ok (.invokevirtual 146, 3) := by decide +kernel
theorem dX10_rests_10 : decode cX10_rests 10 = .ok (.ifCond .ne 5, 3) := by decide +kernel
theorem dX10_rests_13 : decode cX10_rests 13 = .ok (.iconst (-1), 1) := by decide +kernel
theorem dX10_rests_14 : decode cX10_rests 14 = .ok (.ireturn, 1) := by decide +kernel
theorem dX10_rests_15 : decode cX10_rests 15 = .ok (.aload_n 0, 1) := by decide +kernel
theorem dX10_rests_16 : decode cX10_rests 16 = .ok (.invokevirtual 202, 3) := by decide +kernel
theorem dX10_rests_19 : decode cX10_rests 19 = .ok (.iconst 0, 1) := by decide +kernel
theorem dX10_rests_20 : decode cX10_rests 20 = .ok (.istore_n 2, 1) := by decide +kernel
theorem dX10_rests_21 : decode cX10_rests 21 = .ok (.iconst 0, 1) := by decide +kernel
theorem dX10_rests_22 : decode cX10_rests 22 = .ok (.istore_n 3, 1) := by decide +kernel
theorem dX10_rests_23 : decode cX10_rests 23 = .ok (.iload_n 3, 1) := by decide +kernel
theorem dX10_rests_24 : decode cX10_rests 24 = .ok (.aload_n 0, 1) := by decide +kernel
theorem dX10_rests_25 : decode cX10_rests 25 = .ok (.getfield 158, 3) := by decide +kernel
theorem dX10_rests_28 : decode cX10_rests 28 = .ok (.if_icmp .ge 31, 3) := by decide +kernel
theorem dX10_rests_31 : decode cX10_rests 31 = .ok (.aload_n 0, 1) := by decide +kernel
theorem dX10_rests_32 : decode cX10_rests 32 = .ok (.iload_n 3, 1) := by decide +kernel
theorem dX10_rests_33 : decode cX10_rests 33 = .ok (.invokevirtual 205, 3) := by decide +kernel
theorem dX10_rests_36 : decode cX10_rests 36 = .ok (.ifCond .ge 17, 3) := by decide +kernel
theorem dX10_rests_39 : decode cX10_rests 39 = .ok (.iload_n 1, 1) := by decide +kernel
theorem dX10_rests_40 : decode cX10_rests 40 = .ok (.ifCond .lt 10, 3) := by decide +kernel
theorem dX10_rests_43 : decode cX10_rests 43 = .ok (.aload_n 0, 1) := by decide +kernel
theorem dX10_rests_44 : decode cX10_rests 44 = .ok (.iload_n 3, 1) := by decide +kernel
theorem dX10_rests_45 : decode cX10_rests 45 = .ok (.iload_n 1, 1) := by decide +kernel
theorem dX10_rests_46 : decode cX10_rests 46 = .ok (.invokevirtual 165, 3) := by decide +kernel
theorem dX10_rests_49 : decode cX10_rests 49 = .ok (.ireturn, 1) := by decide +kernel
theorem dX10_rests_50 : decode cX10_rests 50 = .ok (.iinc 2 1, 3) := by decide +kernel
theorem dX10_rests_53 : decode cX10_rests 53 = .ok (.iinc 3 1, 3) := by decide +kernel
theorem dX10_rests_56 : decode cX10_rests 56 = .ok (.goto (-33), 3) := by decide +kernel
theorem dX10_rests_59 : decode cX10_rests 59 = .ok (.iload_n 1, 1) := by decide +kernel
theorem dX10_rests_60 : decode cX10_rests 60 = .ok (.ifCond .ge 7, 3) := by decide +kernel
theorem dX10_rests_63 : decode cX10_rests 63 = .ok (.iload_n 2, 1) := by decide +kernel
theorem dX10_rests_64 : decode cX10_rests 64 = .ok (.goto 5, 3) := by decide +kernel
theorem dX10_rests_67 : decode cX10_rests 67 = .ok (.bipush (-4), 2) := by decide +kernel
theorem dX10_rests_69 : decode cX10_rests 69 = .ok (.ireturn, 1) := by decide +kernel
theorem dX10_goOn_0 : decode cX10_goOn 0 = .ok (.aload_n 0, 1) := by decide +kernel
theorem dX10_goOn_1 : decode cX10_goOn 1 = .ok (.invokevirtual 202, 3) := by decide +kernel
theorem dX10_goOn_4 : decode cX10_goOn 4 = .ok (.aload_n 0, 1) := by decide +kernel
theorem dX10_goOn_5 : decode cX10_goOn 5 = .ok (.invokevirtual 151, 3) := by decide +kernel
theorem dX10_goOn_8 : decode cX10_goOn 8 = .ok (.istore_n 1, 1) := by decide +kernel
theorem dX10_goOn_9 : decode cX10_goOn 9 = .ok (.iconst 0, 1) := by decide +kernel
theorem dX10_goOn_10 : decode cX10_goOn 10 = .ok (.istore_n 2, 1) := by decide +kernel
theorem dX10_goOn_11 : decode cX10_goOn 11 = .ok (.iload_n 2, 1) := by decide +kernel
theorem dX10_goOn_12 : decode cX10_goOn 12 = .ok (.sipush 1000, 3) := by decide +kernel
theorem dX10_goOn_15 : decode cX10_goOn 15 = .ok (.if_icmp .gt 38, 3) := by decide +kernel
theorem dX10_goOn_18 : decode cX10_goOn 18 = .ok (.aload_n 0, 1) := by decide +kernel
theorem dX10_goOn_19 : decode cX10_goOn 19 = .ok (.iload_n 1, 1) := by decide +kernel
theorem dX10_goOn_20 : decode cX10_goOn 20 = .ok (.invokevirtual 205, 3) := by decide +kernel
theorem dX10_goOn_23 : decode cX10_goOn 23 = .ok (.istore_n 3, 1) := by decide +kernel
theorem dX10_goOn_24 : decode cX10_goOn 24 = .ok (.iload_n 3, 1) := by decide +kernel
theorem dX10_goOn_25 : decode cX10_goOn 25 = .ok (.ifCond .ge 10, 3) := by decide +kernel
theorem dX10_goOn_28 : decode cX10_goOn 28 = .ok (.aload_n 0, 1) := by decide +kernel
theorem dX10_goOn_29 : decode cX10_goOn 29 = .ok (.iload_n 1, 1) := by decide +kernel
theorem dX10_goOn_30 : decode cX10_goOn 30 = .ok (.putfield 208, 3) := by decide +kernel
theorem dX10_goOn_33 : decode cX10_goOn 33 = .ok (.iload_n 2, 1) := by decide +kernel
theorem dX10_goOn_34 : decode cX10_goOn 34 = .ok (.ireturn, 1) := by decide +kernel
theorem dX10_goOn_35 : decode cX10_goOn 35 = .ok (.aload_n 0, 1) := by decide +kernel
theorem dX10_goOn_36 : decode cX10_goOn 36 = .ok (.getfield 65, 3) := by decide +kernel
theorem dX10_goOn_39 : decode cX10_goOn 39 = .ok (.bipush 6, 2) := by decide +kernel
theorem dX10_goOn_41 : decode cX10_goOn 41 = .ok (.iload_n 1, 1) := by decide +kernel
theorem dX10_goOn_42 : decode cX10_goOn 42 = .ok (.imul, 1) := by decide +kernel
theorem dX10_goOn_43 : decode cX10_goOn 43 = .ok (.iload_n 3, 1) := by decide +kernel
theorem dX10_goOn_44 : decode cX10_goOn 44 = .ok (.iadd, 1) := by decide +kernel
theorem dX10_goOn_45 : decode cX10_goOn 45 = .ok (.iaload, 1) := by decide +kernel
theorem dX10_goOn_46 : decode cX10_goOn 46 = .ok (.istore_n 1, 1) := by decide +kernel
theorem dX10_goOn_47 : decode cX10_goOn 47 = .ok (.iinc 2 1, 3) := by decide +kernel
theorem dX10_goOn_50 : decode cX10_goOn 50 = .ok (.goto (-39), 3) := by decide +kernel
theorem dX10_goOn_53 : decode cX10_goOn 53 = .ok (.bipush (-4), 2) := by decide +kernel
theorem dX10_goOn_55 : decode cX10_goOn 55 = .ok (.ireturn, 1) := by decide +kernel
theorem dX10_goingOn_0 : decode cX10_goingOn 0 = .ok (.iload_n 1, 1) := by decide +kernel
theorem dX10_goingOn_1 : decode cX10_goingOn 1 = .ok (.iconst (-1), 1) := by decide +kernel
theorem dX10_goingOn_2 : decode cX10_goingOn 2 = .ok (.if_icmp .eq 13, 3) := by decide +kernel
theorem dX10_goingOn_5 : decode cX10_goingOn 5 = .ok (.aload_n 0, 1) := by decide +kernel
theorem dX10_goingOn_6 : decode cX10_goingOn 6 = .ok (.iload_n 1, 1) := by decide +kernel
theorem dX10_goingOn_7 : decode cX10_goingOn 7 = .ok (.invokevirtual 146, 3) := by decide +kernel
theorem dX10_goingOn_10 : decode cX10_goingOn 10 = .ok (.ifCond .ne 5, 3) := by decide +kernel
theorem dX10_goingOn_13 : decode cX10_goingOn 13 = .ok (.iconst (-1), 1) := by decide +kernel
theorem dX10_goingOn_14 : decode cX10_goingOn 14 = .ok (.ireturn, 1) := by decide +kernel
theorem dX10_goingOn_15 : decode cX10_goingOn 15 = .ok (.aload_n 0, 1) := by decide +kernel
theorem dX10_goingOn_16 : decode cX10_goingOn 16 = .ok (.invokevirtual 211, 3) := by decide +kernel
theorem dX10_goingOn_19 : decode cX10_goingOn 19 = .ok (.istore_n 2, 1) := by decide +kernel
theorem dX10_goingOn_20 : decode cX10_goingOn 20 = .ok (.iload_n 2, 1) := by decide +kernel
theorem dX10_goingOn_21 : decode cX10_goingOn 21 = .ok (.ifCond .lt 7, 3) := by decide +kernel
theorem dX10_goingOn_24 : decode cX10_goingOn 24 = .ok (.iload_n 1, 1) := by decide +kernel
theorem dX10_goingOn_25 : decode cX10_goingOn 25 = .ok (.ifCond .ge 7, 3) := by decide +kernel
theorem dX10_goingOn_28 : decode cX10_goingOn 28 = .ok (.iload_n 2, 1) := by decide +kernel
theorem dX10_goingOn_29 : decode cX10_goingOn 29 = .ok (.goto 12, 3) := by decide +kernel
theorem dX10_goingOn_32 : decode cX10_goingOn 32 = .ok (.aload_n 0, 1) := by decide +kernel
theorem dX10_goingOn_33 : decode cX10_goingOn 33 = .ok (.aload_n 0, 1) := by decide +kernel
theorem dX10_goingOn_34 : decode cX10_goingOn 34 = .ok (.getfield 208, 3) := by decide +kernel
theorem dX10_goingOn_37 : decode cX10_goingOn 37 = .ok (.iload_n 1, 1) := by decide +kernel
theorem dX10_goingOn_38 : decode cX10_goingOn 38 = .ok (.invokevirtual 165, 3) := by decide +kernel
theorem dX10_goingOn_41 : decode cX10_goingOn 41 = .ok (.ireturn, 1) := by decide +kernel
theorem dX10_layReached_0 : decode cX10_layReached 0 = .ok (.iconst 0, 1) := by decide +kernel
theorem dX10_layReached_1 : decode cX10_layReached 1 = .ok (.istore_n 2, 1) := by decide +kernel
theorem dX10_layReached_2 : decode cX10_layReached 2 = .ok (.iload_n 2, 1) := by decide +kernel
theorem dX10_layReached_3 : decode cX10_layReached 3 = .ok (.aload_n 0, 1) := by decide +kernel
theorem dX10_layReached_4 : decode cX10_layReached 4 = .ok (.getfield 158, 3) := by decide +kernel
theorem dX10_layReached_7 : decode cX10_layReached 7 = .ok (.if_icmp .ge 17, 3) := by decide +kernel
theorem dX10_layReached_10 : decode cX10_layReached 10 = .ok (.aload_n 0, 1) := by decide +kernel
theorem dX10_layReached_11 : decode cX10_layReached 11 = .ok (.getfield 71, 3) := by decide +kernel
theorem dX10_layReached_14 : decode cX10_layReached 14 = .ok (.iload_n 2, 1) := by decide +kernel
theorem dX10_layReached_15 : decode cX10_layReached 15 = .ok (.bipush (-4), 2) := by decide +kernel
theorem dX10_layReached_17 : decode cX10_layReached 17 = .ok (.iastore, 1) := by decide +kernel
theorem dX10_layReached_18 : decode cX10_layReached 18 = .ok (.iinc 2 1, 3) := by decide +kernel
theorem dX10_layReached_21 : decode cX10_layReached 21 = .ok (.goto (-19), 3) := by decide +kernel
theorem dX10_layReached_24 : decode cX10_layReached 24 = .ok (.aload_n 0, 1) := by decide +kernel
theorem dX10_layReached_25 : decode cX10_layReached 25 = .ok (.getfield 71, 3) := by decide +kernel
theorem dX10_layReached_28 : decode cX10_layReached 28 = .ok (.iload_n 1, 1) := by decide +kernel
theorem dX10_layReached_29 : decode cX10_layReached 29 = .ok (.iconst 0, 1) := by decide +kernel
theorem dX10_layReached_30 : decode cX10_layReached 30 = .ok (.iastore, 1) := by decide +kernel
theorem dX10_layReached_31 : decode cX10_layReached 31 = .ok (.iconst 1, 1) := by decide +kernel
theorem dX10_layReached_32 : decode cX10_layReached 32 = .ok (.istore_n 2, 1) := by decide +kernel
theorem dX10_layReached_33 : decode cX10_layReached 33 = .ok (.iconst 0, 1) := by decide +kernel
theorem dX10_layReached_34 : decode cX10_layReached 34 = .ok (.istore_n 3, 1) := by decide +kernel
theorem dX10_layReached_35 : decode cX10_layReached 35 = .ok (.iload_n 2, 1) := by decide +kernel
theorem dX10_layReached_36 : decode cX10_layReached 36 = .ok (.ifCond .eq 100, 3) := by decide +kernel
theorem dX10_layReached_39 : decode cX10_layReached 39 = .ok (.iconst 0, 1) := by decide +kernel
theorem dX10_layReached_40 : decode cX10_layReached 40 = .ok (.istore_n 2, 1) := by decide +kernel
theorem dX10_layReached_41 : decode cX10_layReached 41 = .ok (.iconst 0, 1) := by decide +kernel
theorem dX10_layReached_42 : decode cX10_layReached 42 = .ok (.istore 4, 2) := by decide +kernel
theorem dX10_layReached_44 : decode cX10_layReached 44 = .ok (.iload 4, 2) := by decide +kernel
theorem dX10_layReached_46 : decode cX10_layReached 46 = .ok (.aload_n 0, 1) := by decide +kernel
theorem dX10_layReached_47 : decode cX10_layReached 47 = .ok (.getfield 158, 3) := by decide +kernel
theorem dX10_layReached_50 : decode cX10_layReached 50 = .ok (.if_icmp .ge 80, 3) := by decide +kernel
theorem dX10_layReached_53 : decode cX10_layReached 53 = .ok (.iconst 0, 1) := by decide +kernel
theorem dX10_layReached_54 : decode cX10_layReached 54 = .ok (.istore 5, 2) := by decide +kernel
theorem dX10_layReached_56 : decode cX10_layReached 56 = .ok (.iload 5, 2) := by decide +kernel
theorem dX10_layReached_58 : decode cX10_layReached 58 = .ok (.aload_n 0, 1) := by decide +kernel
theorem dX10_layReached_59 : decode cX10_layReached 59 = .ok (.invokevirtual 174, 3) := by decide +kernel
theorem dX10_layReached_62 : decode cX10_layReached 62 = .ok (.if_icmp .ge 62, 3) := by decide +kernel
theorem dX10_layReached_65 : decode cX10_layReached 65 = .ok (.aload_n 0, 1) := by decide +kernel
theorem dX10_layReached_66 : decode cX10_layReached 66 = .ok (.getfield 71, 3) := by decide +kernel
theorem dX10_layReached_69 : decode cX10_layReached 69 = .ok (.iload 4, 2) := by decide +kernel
theorem dX10_layReached_71 : decode cX10_layReached 71 = .ok (.iaload, 1) := by decide +kernel
theorem dX10_layReached_72 : decode cX10_layReached 72 = .ok (.iload_n 3, 1) := by decide +kernel
theorem dX10_layReached_73 : decode cX10_layReached 73 = .ok (.if_icmp .ne 51, 3) := by decide +kernel
theorem dX10_layReached_76 : decode cX10_layReached 76 = .ok (.aload_n 0, 1) := by decide +kernel
theorem dX10_layReached_77 : decode cX10_layReached 77 = .ok (.getfield 65, 3) := by decide +kernel
theorem dX10_layReached_80 : decode cX10_layReached 80 = .ok (.bipush 6, 2) := by decide +kernel
theorem dX10_layReached_82 : decode cX10_layReached 82 = .ok (.iload 4, 2) := by decide +kernel
theorem dX10_layReached_84 : decode cX10_layReached 84 = .ok (.imul, 1) := by decide +kernel
theorem dX10_layReached_85 : decode cX10_layReached 85 = .ok (.iload 5, 2) := by decide +kernel
theorem dX10_layReached_87 : decode cX10_layReached 87 = .ok (.iadd, 1) := by decide +kernel
theorem dX10_layReached_88 : decode cX10_layReached 88 = .ok (.iaload, 1) := by decide +kernel
theorem dX10_layReached_89 : decode cX10_layReached 89 = .ok (.istore 6, 2) := by decide +kernel
theorem dX10_layReached_91 : decode cX10_layReached 91 = .ok (.iload 6, 2) := by decide +kernel
theorem dX10_layReached_93 : decode cX10_layReached 93 = .ok (.ifCond .lt 25, 3) := by decide +kernel
theorem dX10_layReached_96 : decode cX10_layReached 96 = .ok (.aload_n 0, 1) := by decide +kernel
theorem dX10_layReached_97 : decode cX10_layReached 97 = .ok (.getfield 71, 3) := by decide +kernel
theorem dX10_layReached_100 : decode cX10_layReached 100 = .ok (.iload 6, 2) := by decide +kernel
theorem dX10_layReached_102 : decode cX10_layReached 102 = .ok (.iaload, 1) := by decide +kernel
theorem dX10_layReached_103 : decode cX10_layReached 103 = .ok (.ifCond .ge 15, 3) := by decide +kernel
theorem dX10_layReached_106 : decode cX10_layReached 106 = .ok (.aload_n 0, 1) := by decide +kernel
theorem dX10_layReached_107 : decode cX10_layReached 107 = .ok (.getfield 71, 3) := by decide +kernel
theorem dX10_layReached_110 : decode cX10_layReached 110 = .ok (.iload 6, 2) := by decide +kernel
theorem dX10_layReached_112 : decode cX10_layReached 112 = .ok (.iload_n 3, 1) := by decide +kernel
theorem dX10_layReached_113 : decode cX10_layReached 113 = .ok (.iconst 1, 1) := by decide +kernel
theorem dX10_layReached_114 : decode cX10_layReached 114 = .ok (.iadd, 1) := by decide +kernel
theorem dX10_layReached_115 : decode cX10_layReached 115 = .ok (.iastore, 1) := by decide +kernel
theorem dX10_layReached_116 : decode cX10_layReached 116 = .ok (.iconst 1, 1) := by decide +kernel
theorem dX10_layReached_117 : decode cX10_layReached 117 = .ok (.istore_n 2, 1) := by decide +kernel
theorem dX10_layReached_118 : decode cX10_layReached 118 = .ok (.iinc 5 1, 3) := by decide +kernel
theorem dX10_layReached_121 : decode cX10_layReached 121 = .ok (.goto (-65), 3) := by decide +kernel
theorem dX10_layReached_124 : decode cX10_layReached 124 = .ok (.iinc 4 1, 3) := by decide +kernel
theorem dX10_layReached_127 : decode cX10_layReached 127 = .ok (.goto (-83), 3) := by decide +kernel
theorem dX10_layReached_130 : decode cX10_layReached 130 = .ok (.iinc 3 1, 3) := by decide +kernel
theorem dX10_layReached_133 : decode cX10_layReached 133 = .ok (.goto (-98), 3) := by decide +kernel
theorem dX10_layReached_136 : decode cX10_layReached 136 = .ok (.return_, 1) := by decide +kernel
theorem dX10_longest_0 : decode cX10_longest 0 = .ok (.aload_n 0, 1) := by decide +kernel
theorem dX10_longest_1 : decode cX10_longest 1 = .ok (.invokevirtual 202, 3) := by decide +kernel
theorem dX10_longest_4 : decode cX10_longest 4 = .ok (.aload_n 0, 1) := by decide +kernel
theorem dX10_longest_5 : decode cX10_longest 5 = .ok (.aload_n 0, 1) := by decide +kernel
theorem dX10_longest_6 : decode cX10_longest 6 = .ok (.invokevirtual 151, 3) := by decide +kernel
theorem dX10_longest_9 : decode cX10_longest 9 = .ok (.invokevirtual 214, 3) := by decide +kernel
theorem dX10_longest_12 : decode cX10_longest 12 = .ok (.iconst 0, 1) := by decide +kernel
theorem dX10_longest_13 : decode cX10_longest 13 = .ok (.istore_n 1, 1) := by decide +kernel
theorem dX10_longest_14 : decode cX10_longest 14 = .ok (.iload_n 1, 1) := by decide +kernel
theorem dX10_longest_15 : decode cX10_longest 15 = .ok (.aload_n 0, 1) := by decide +kernel
theorem dX10_longest_16 : decode cX10_longest 16 = .ok (.getfield 158, 3) := by decide +kernel
theorem dX10_longest_19 : decode cX10_longest 19 = .ok (.if_icmp .ge 17, 3) := by decide +kernel
theorem dX10_longest_22 : decode cX10_longest 22 = .ok (.aload_n 0, 1) := by decide +kernel
theorem dX10_longest_23 : decode cX10_longest 23 = .ok (.getfield 68, 3) := by decide +kernel
theorem dX10_longest_26 : decode cX10_longest 26 = .ok (.iload_n 1, 1) := by decide +kernel
theorem dX10_longest_27 : decode cX10_longest 27 = .ok (.bipush (-4), 2) := by decide +kernel
theorem dX10_longest_29 : decode cX10_longest 29 = .ok (.iastore, 1) := by decide +kernel
theorem dX10_longest_30 : decode cX10_longest 30 = .ok (.iinc 1 1, 3) := by decide +kernel
theorem dX10_longest_33 : decode cX10_longest 33 = .ok (.goto (-19), 3) := by decide +kernel
theorem dX10_longest_36 : decode cX10_longest 36 = .ok (.iconst 1, 1) := by decide +kernel
theorem dX10_longest_37 : decode cX10_longest 37 = .ok (.istore_n 1, 1) := by decide +kernel
theorem dX10_longest_38 : decode cX10_longest 38 = .ok (.iload_n 1, 1) := by decide +kernel
theorem dX10_longest_39 : decode cX10_longest 39 = .ok (.ifCond .eq 148, 3) := by decide +kernel
theorem dX10_longest_42 : decode cX10_longest 42 = .ok (.iconst 0, 1) := by decide +kernel
theorem dX10_longest_43 : decode cX10_longest 43 = .ok (.istore_n 1, 1) := by decide +kernel
theorem dX10_longest_44 : decode cX10_longest 44 = .ok (.iconst 0, 1) := by decide +kernel
theorem dX10_longest_45 : decode cX10_longest 45 = .ok (.istore_n 2, 1) := by decide +kernel
theorem dX10_longest_46 : decode cX10_longest 46 = .ok (.iload_n 2, 1) := by decide +kernel
theorem dX10_longest_47 : decode cX10_longest 47 = .ok (.aload_n 0, 1) := by decide +kernel
theorem dX10_longest_48 : decode cX10_longest 48 = .ok (.getfield 158, 3) := by decide +kernel
theorem dX10_longest_51 : decode cX10_longest 51 = .ok (.if_icmp .ge 133, 3) := by decide +kernel
theorem dX10_longest_54 : decode cX10_longest 54 = .ok (.aload_n 0, 1) := by decide +kernel
theorem dX10_longest_55 : decode cX10_longest 55 = .ok (.getfield 68, 3) := by decide +kernel
theorem dX10_longest_58 : decode cX10_longest 58 = .ok (.iload_n 2, 1) := by decide +kernel
theorem dX10_longest_59 : decode cX10_longest 59 = .ok (.iaload, 1) := by decide +kernel
theorem dX10_longest_60 : decode cX10_longest 60 = .ok (.ifCond .ge 118, 3) := by decide +kernel
theorem dX10_longest_63 : decode cX10_longest 63 = .ok (.aload_n 0, 1) := by decide +kernel
theorem dX10_longest_64 : decode cX10_longest 64 = .ok (.getfield 71, 3) := by decide +kernel
theorem dX10_longest_67 : decode cX10_longest 67 = .ok (.iload_n 2, 1) := by decide +kernel
theorem dX10_longest_68 : decode cX10_longest 68 = .ok (.iaload, 1) := by decide +kernel
theorem dX10_longest_69 : decode cX10_longest 69 = .ok (.ifCond .lt 109, 3) := by decide +kernel
theorem dX10_longest_72 : decode cX10_longest 72 = .ok (.iconst 0, 1) := by decide +kernel
theorem dX10_longest_73 : decode cX10_longest 73 = .ok (.istore_n 3, 1) := by decide +kernel
theorem dX10_longest_74 : decode cX10_longest 74 = .ok (.iconst 0, 1) := by decide +kernel
theorem dX10_longest_75 : decode cX10_longest 75 = .ok (.istore 4, 2) := by decide +kernel
theorem dX10_longest_77 : decode cX10_longest 77 = .ok (.iload 4, 2) := by decide +kernel
theorem dX10_longest_79 : decode cX10_longest 79 = .ok (.aload_n 0, 1) := by decide +kernel
theorem dX10_longest_80 : decode cX10_longest 80 = .ok (.invokevirtual 174, 3) := by decide +kernel
theorem dX10_longest_83 : decode cX10_longest 83 = .ok (.if_icmp .ge 74, 3) := by decide +kernel
theorem dX10_longest_86 : decode cX10_longest 86 = .ok (.aload_n 0, 1) := by decide +kernel
theorem dX10_longest_87 : decode cX10_longest 87 = .ok (.getfield 65, 3) := by decide +kernel
theorem dX10_longest_90 : decode cX10_longest 90 = .ok (.bipush 6, 2) := by decide +kernel
theorem dX10_longest_92 : decode cX10_longest 92 = .ok (.iload_n 2, 1) := by decide +kernel
theorem dX10_longest_93 : decode cX10_longest 93 = .ok (.imul, 1) := by decide +kernel
theorem dX10_longest_94 : decode cX10_longest 94 = .ok (.iload 4, 2) := by decide +kernel
theorem dX10_longest_96 : decode cX10_longest 96 = .ok (.iadd, 1) := by decide +kernel
theorem dX10_longest_97 : decode cX10_longest 97 = .ok (.iaload, 1) := by decide +kernel
theorem dX10_longest_98 : decode cX10_longest 98 = .ok (.istore 5, 2) := by decide +kernel
theorem dX10_longest_100 : decode cX10_longest 100 = .ok (.iload 5, 2) := by decide +kernel
theorem dX10_longest_102 : decode cX10_longest 102 = .ok (.ifCond .lt 49, 3) := by decide +kernel
theorem dX10_longest_105 : decode cX10_longest 105 = .ok (.iload_n 3, 1) := by decide +kernel
theorem dX10_longest_106 : decode cX10_longest 106 = .ok (.ifCond .lt 45, 3) := by decide +kernel
theorem dX10_longest_109 : decode cX10_longest 109 = .ok (.aload_n 0, 1) := by decide +kernel
theorem dX10_longest_110 : decode cX10_longest 110 = .ok (.getfield 68, 3) := by decide +kernel
theorem dX10_longest_113 : decode cX10_longest 113 = .ok (.iload 5, 2) := by decide +kernel
theorem dX10_longest_115 : decode cX10_longest 115 = .ok (.iaload, 1) := by decide +kernel
theorem dX10_longest_116 : decode cX10_longest 116 = .ok (.ifCond .ge 8, 3) := by decide +kernel
theorem dX10_longest_119 : decode cX10_longest 119 = .ok (.bipush (-4), 2) := by decide +kernel
theorem dX10_longest_121 : decode cX10_longest 121 = .ok (.goto 29, 3) := by decide +kernel
theorem dX10_longest_124 : decode cX10_longest 124 = .ok (.aload_n 0, 1) := by decide +kernel
theorem dX10_longest_125 : decode cX10_longest 125 = .ok (.getfield 68, 3) := by decide +kernel
theorem dX10_longest_128 : decode cX10_longest 128 = .ok (.iload 5, 2) := by decide +kernel
theorem dX10_longest_130 : decode cX10_longest 130 = .ok (.iaload, 1) := by decide +kernel
theorem dX10_longest_131 : decode cX10_longest 131 = .ok (.iconst 1, 1) := by decide +kernel
theorem dX10_longest_132 : decode cX10_longest 132 = .ok (.iadd, 1) := by decide +kernel
theorem dX10_longest_133 : decode cX10_longest 133 = .ok (.iload_n 3, 1) := by decide +kernel
theorem dX10_longest_134 : decode cX10_longest 134 = .ok (.if_icmp .le 15, 3) := by decide +kernel
theorem dX10_longest_137 : decode cX10_longest 137 = .ok (.aload_n 0, 1) := by decide +kernel
theorem dX10_longest_138 : decode cX10_longest 138 = .ok (.getfield 68, 3) := by decide +kernel
theorem dX10_longest_141 : decode cX10_longest 141 = .ok (.iload 5, 2) := by decide +kernel
theorem dX10_longest_143 : decode cX10_longest 143 = .ok (.iaload, 1) := by decide +kernel
theorem dX10_longest_144 : decode cX10_longest 144 = .ok (.iconst 1, 1) := by decide +kernel
theorem dX10_longest_145 : decode cX10_longest 145 = .ok (.iadd, 1) := by decide +kernel
theorem dX10_longest_146 : decode cX10_longest 146 = .ok (.goto 4, 3) := by decide +kernel
theorem dX10_longest_149 : decode cX10_longest 149 = .ok (.iload_n 3, 1) := by decide +kernel
theorem dX10_longest_150 : decode cX10_longest 150 = .ok (.istore_n 3, 1) := by decide +kernel
theorem dX10_longest_151 : decode cX10_longest 151 = .ok (.iinc 4 1, 3) := by decide +kernel
theorem dX10_longest_154 : decode cX10_longest 154 = .ok (.goto (-77), 3) := by decide +kernel
theorem dX10_longest_157 : decode cX10_longest 157 = .ok (.aload_n 0, 1) := by decide +kernel
theorem dX10_longest_158 : decode cX10_longest 158 = .ok (.getfield 68, 3) := by decide +kernel
theorem dX10_longest_161 : decode cX10_longest 161 = .ok (.iload_n 2, 1) := by decide +kernel
theorem dX10_longest_162 : decode cX10_longest 162 = .ok (.iload_n 3, 1) := by decide +kernel
theorem dX10_longest_163 : decode cX10_longest 163 = .ok (.iastore, 1) := by decide +kernel
theorem dX10_longest_164 : decode cX10_longest 164 = .ok (.iload_n 1, 1) := by decide +kernel
theorem dX10_longest_165 : decode cX10_longest 165 = .ok (.ifCond .ne 7, 3) := by decide +kernel
theorem dX10_longest_168 : decode cX10_longest 168 = .ok (.iload_n 3, 1) := by decide +kernel
theorem dX10_longest_169 : decode cX10_longest 169 = .ok (.ifCond .lt 7, 3) := by decide +kernel
theorem dX10_longest_172 : decode cX10_longest 172 = .ok (.iconst 1, 1) := by decide +kernel
theorem dX10_longest_173 : decode cX10_longest 173 = .ok (.goto 4, 3) := by decide +kernel
theorem dX10_longest_176 : decode cX10_longest 176 = .ok (.iconst 0, 1) := by decide +kernel
theorem dX10_longest_177 : decode cX10_longest 177 = .ok (.istore_n 1, 1) := by decide +kernel
theorem dX10_longest_178 : decode cX10_longest 178 = .ok (.iinc 2 1, 3) := by decide +kernel
theorem dX10_longest_181 : decode cX10_longest 181 = .ok (.goto (-135), 3) := by decide +kernel
theorem dX10_longest_184 : decode cX10_longest 184 = .ok (.goto (-146), 3) := by decide +kernel
theorem dX10_longest_187 : decode cX10_longest 187 = .ok (.aload_n 0, 1) := by decide +kernel
theorem dX10_longest_188 : decode cX10_longest 188 = .ok (.getfield 68, 3) := by decide +kernel
theorem dX10_longest_191 : decode cX10_longest 191 = .ok (.aload_n 0, 1) := by decide +kernel
theorem dX10_longest_192 : decode cX10_longest 192 = .ok (.invokevirtual 151, 3) := by decide +kernel
theorem dX10_longest_195 : decode cX10_longest 195 = .ok (.iaload, 1) := by decide +kernel
theorem dX10_longest_196 : decode cX10_longest 196 = .ok (.ireturn, 1) := by decide +kernel
theorem dX10_fewestFrom_0 : decode cX10_fewestFrom 0 = .ok (.aload_n 0, 1) := by decide +kernel
theorem dX10_fewestFrom_1 : decode cX10_fewestFrom 1 = .ok (.iload_n 1, 1) := by decide +kernel
theorem dX10_fewestFrom_2 : decode cX10_fewestFrom 2 = .ok (.invokevirtual 214, 3) := by decide +kernel
theorem dX10_fewestFrom_5 : decode cX10_fewestFrom 5 = .ok (.bipush (-4), 2) := by decide +kernel
theorem dX10_fewestFrom_7 : decode cX10_fewestFrom 7 = .ok (.istore 4, 2) := by decide +kernel
theorem dX10_fewestFrom_9 : decode cX10_fewestFrom 9 = .ok (.iconst 0, 1) := by decide +kernel
theorem dX10_fewestFrom_10 : decode cX10_fewestFrom 10 = .ok (.istore 5, 2) := by decide +kernel
theorem dX10_fewestFrom_12 : decode cX10_fewestFrom 12 = .ok (.iload 5, 2) := by decide +kernel
theorem dX10_fewestFrom_14 : decode cX10_fewestFrom 14 = .ok (.aload_n 0, 1) := by decide +kernel
theorem dX10_fewestFrom_15 : decode cX10_fewestFrom 15 = .ok (.getfield 158, 3) := by decide +kernel
theorem dX10_fewestFrom_18 : decode cX10_fewestFrom 18 = .ok (.if_icmp .ge 94, 3) := by decide +kernel
theorem dX10_fewestFrom_21 : decode cX10_fewestFrom 21 = .ok (.iload_n 3, 1) := by decide +kernel
theorem dX10_fewestFrom_22 : decode cX10_fewestFrom 22 = .ok (.ifCond .lt 22, 3) := by decide +kernel
theorem dX10_fewestFrom_25 : decode cX10_fewestFrom 25 = .ok (.aload_n 0, 1) := by decide +kernel
theorem dX10_fewestFrom_26 : decode cX10_fewestFrom 26 = .ok (.iload 5, 2) := by decide +kernel
theorem dX10_fewestFrom_28 : decode cX10_fewestFrom 28 = .ok (.iload_n 3, 1) := by decide +kernel
theorem dX10_fewestFrom_29 : decode cX10_fewestFrom 29 = .ok (.invokevirtual 165, 3) := by decide +kernel
theorem dX10_fewestFrom_32 : decode cX10_fewestFrom 32 = .ok (.iload_n 2, 1) := by decide +kernel
theorem dX10_fewestFrom_33 : decode cX10_fewestFrom 33 = .ok (.if_icmp .ne 7, 3) := by decide +kernel
theorem dX10_fewestFrom_36 : decode cX10_fewestFrom 36 = .ok (.iconst 1, 1) := by decide +kernel
theorem dX10_fewestFrom_37 : decode cX10_fewestFrom 37 = .ok (.goto 21, 3) := by decide +kernel
theorem dX10_fewestFrom_40 : decode cX10_fewestFrom 40 = .ok (.iconst 0, 1) := by decide +kernel
theorem dX10_fewestFrom_41 : decode cX10_fewestFrom 41 = .ok (.goto 17, 3) := by decide +kernel
theorem dX10_fewestFrom_44 : decode cX10_fewestFrom 44 = .ok (.aload_n 0, 1) := by decide +kernel
theorem dX10_fewestFrom_45 : decode cX10_fewestFrom 45 = .ok (.iload 5, 2) := by decide +kernel
theorem dX10_fewestFrom_47 : decode cX10_fewestFrom 47 = .ok (.invokevirtual 205, 3) := by decide +kernel
theorem dX10_fewestFrom_50 : decode cX10_fewestFrom 50 = .ok (.ifCond .ge 7, 3) := by decide +kernel
theorem dX10_fewestFrom_53 : decode cX10_fewestFrom 53 = .ok (.iconst 1, 1) := by decide +kernel
theorem dX10_fewestFrom_54 : decode cX10_fewestFrom 54 = .ok (.goto 4, 3) := by decide +kernel
theorem dX10_fewestFrom_57 : decode cX10_fewestFrom 57 = .ok (.iconst 0, 1) := by decide +kernel
theorem dX10_fewestFrom_58 : decode cX10_fewestFrom 58 = .ok (.istore 6, 2) := by decide +kernel
theorem dX10_fewestFrom_60 : decode cX10_fewestFrom 60 = .ok (.iload 6, 2) := by decide +kernel
theorem dX10_fewestFrom_62 : decode cX10_fewestFrom 62 = .ok (.ifCond .eq 40, 3) := by decide +kernel
theorem dX10_fewestFrom_65 : decode cX10_fewestFrom 65 = .ok (.aload_n 0, 1) := by decide +kernel
theorem dX10_fewestFrom_66 : decode cX10_fewestFrom 66 = .ok (.getfield 71, 3) := by decide +kernel
theorem dX10_fewestFrom_69 : decode cX10_fewestFrom 69 = .ok (.iload 5, 2) := by decide +kernel
theorem dX10_fewestFrom_71 : decode cX10_fewestFrom 71 = .ok (.iaload, 1) := by decide +kernel
theorem dX10_fewestFrom_72 : decode cX10_fewestFrom 72 = .ok (.ifCond .lt 30, 3) := by decide +kernel
theorem dX10_fewestFrom_75 : decode cX10_fewestFrom 75 = .ok (.iload 4, 2) := by decide +kernel
theorem dX10_fewestFrom_77 : decode cX10_fewestFrom 77 = .ok (.ifCond .lt 15, 3) := by decide +kernel
theorem dX10_fewestFrom_80 : decode cX10_fewestFrom 80 = .ok (.aload_n 0, 1) := by decide +kernel
theorem dX10_fewestFrom_81 : decode cX10_fewestFrom 81 = .ok (.getfield 71, 3) := by decide +kernel
theorem dX10_fewestFrom_84 : decode cX10_fewestFrom 84 = .ok (.iload 5, 2) := by decide +kernel
theorem dX10_fewestFrom_86 : decode cX10_fewestFrom 86 = .ok (.iaload, 1) := by decide +kernel
theorem dX10_fewestFrom_87 : decode cX10_fewestFrom 87 = .ok (.iload 4, 2) := by decide +kernel
theorem dX10_fewestFrom_89 : decode cX10_fewestFrom 89 = .ok (.if_icmp .ge 13, 3) := by decide +kernel
theorem dX10_fewestFrom_92 : decode cX10_fewestFrom 92 = .ok (.aload_n 0, 1) := by decide +kernel
theorem dX10_fewestFrom_93 : decode cX10_fewestFrom 93 = .ok (.getfield 71, 3) := by decide +kernel
theorem dX10_fewestFrom_96 : decode cX10_fewestFrom 96 = .ok (.iload 5, 2) := by decide +kernel
theorem dX10_fewestFrom_98 : decode cX10_fewestFrom 98 = .ok (.iaload, 1) := by decide +kernel
theorem dX10_fewestFrom_99 : decode cX10_fewestFrom 99 = .ok (.goto 5, 3) := by decide +kernel
theorem dX10_fewestFrom_102 : decode cX10_fewestFrom 102 = .ok (.iload 4, 2) := by decide +kernel
theorem dX10_fewestFrom_104 : decode cX10_fewestFrom 104 = .ok (.istore 4, 2) := by decide +kernel
theorem dX10_fewestFrom_106 : decode cX10_fewestFrom 106 = .ok (.iinc 5 1, 3) := by decide +kernel
theorem dX10_fewestFrom_109 : decode cX10_fewestFrom 109 = .ok (.goto (-97), 3) := by decide +kernel
theorem dX10_fewestFrom_112 : decode cX10_fewestFrom 112 = .ok (.iload 4, 2) := by decide +kernel
theorem dX10_fewestFrom_114 : decode cX10_fewestFrom 114 = .ok (.ireturn, 1) := by decide +kernel
theorem dX10_firstOf_0 : decode cX10_firstOf 0 = .ok (.aload_n 0, 1) := by decide +kernel
theorem dX10_firstOf_1 : decode cX10_firstOf 1 = .ok (.invokevirtual 151, 3) := by decide +kernel
theorem dX10_firstOf_4 : decode cX10_firstOf 4 = .ok (.istore 4, 2) := by decide +kernel
theorem dX10_firstOf_6 : decode cX10_firstOf 6 = .ok (.iconst 0, 1) := by decide +kernel
theorem dX10_firstOf_7 : decode cX10_firstOf 7 = .ok (.istore 5, 2) := by decide +kernel
theorem dX10_firstOf_9 : decode cX10_firstOf 9 = .ok (.iload 5, 2) := by decide +kernel
theorem dX10_firstOf_11 : decode cX10_firstOf 11 = .ok (.aload_n 0, 1) := by decide +kernel
theorem dX10_firstOf_12 : decode cX10_firstOf 12 = .ok (.invokevirtual 174, 3) := by decide +kernel
theorem dX10_firstOf_15 : decode cX10_firstOf 15 = .ok (.if_icmp .ge 46, 3) := by decide +kernel
theorem dX10_firstOf_18 : decode cX10_firstOf 18 = .ok (.aload_n 0, 1) := by decide +kernel
theorem dX10_firstOf_19 : decode cX10_firstOf 19 = .ok (.getfield 65, 3) := by decide +kernel
theorem dX10_firstOf_22 : decode cX10_firstOf 22 = .ok (.bipush 6, 2) := by decide +kernel
theorem dX10_firstOf_24 : decode cX10_firstOf 24 = .ok (.iload 4, 2) := by decide +kernel
theorem dX10_firstOf_26 : decode cX10_firstOf 26 = .ok (.imul, 1) := by decide +kernel
theorem dX10_firstOf_27 : decode cX10_firstOf 27 = .ok (.iload 5, 2) := by decide +kernel
theorem dX10_firstOf_29 : decode cX10_firstOf 29 = .ok (.iadd, 1) := by decide +kernel
theorem dX10_firstOf_30 : decode cX10_firstOf 30 = .ok (.iaload, 1) := by decide +kernel
theorem dX10_firstOf_31 : decode cX10_firstOf 31 = .ok (.istore 6, 2) := by decide +kernel
theorem dX10_firstOf_33 : decode cX10_firstOf 33 = .ok (.iload 6, 2) := by decide +kernel
theorem dX10_firstOf_35 : decode cX10_firstOf 35 = .ok (.ifCond .lt 20, 3) := by decide +kernel
theorem dX10_firstOf_38 : decode cX10_firstOf 38 = .ok (.aload_n 0, 1) := by decide +kernel
theorem dX10_firstOf_39 : decode cX10_firstOf 39 = .ok (.iload 6, 2) := by decide +kernel
theorem dX10_firstOf_41 : decode cX10_firstOf 41 = .ok (.iload_n 1, 1) := by decide +kernel
theorem dX10_firstOf_42 : decode cX10_firstOf 42 = .ok (.iload_n 2, 1) := by decide +kernel
theorem dX10_firstOf_43 : decode cX10_firstOf 43 = .ok (.invokevirtual 217, 3) := by decide +kernel
theorem dX10_firstOf_46 : decode cX10_firstOf 46 = .ok (.iload_n 3, 1) := by decide +kernel
theorem dX10_firstOf_47 : decode cX10_firstOf 47 = .ok (.iconst 1, 1) := by decide +kernel
theorem dX10_firstOf_48 : decode cX10_firstOf 48 = .ok (.isub, 1) := by decide +kernel
theorem dX10_firstOf_49 : decode cX10_firstOf 49 = .ok (.if_icmp .ne 6, 3) := by decide +kernel
theorem dX10_firstOf_52 : decode cX10_firstOf 52 = .ok (.iload 5, 2) := by decide +kernel
theorem dX10_firstOf_54 : decode cX10_firstOf 54 = .ok (.ireturn, 1) := by decide +kernel
theorem dX10_firstOf_55 : decode cX10_firstOf 55 = .ok (.iinc 5 1, 3) := by decide +kernel
theorem dX10_firstOf_58 : decode cX10_firstOf 58 = .ok (.goto (-49), 3) := by decide +kernel
theorem dX10_firstOf_61 : decode cX10_firstOf 61 = .ok (.bipush (-4), 2) := by decide +kernel
theorem dX10_firstOf_63 : decode cX10_firstOf 63 = .ok (.ireturn, 1) := by decide +kernel
theorem dX10_shortest_0 : decode cX10_shortest 0 = .ok (.iload_n 1, 1) := by decide +kernel
theorem dX10_shortest_1 : decode cX10_shortest 1 = .ok (.i2l, 1) := by decide +kernel
theorem dX10_shortest_2 : decode cX10_shortest 2 = .ok (.lconst 0, 1) := by decide +kernel
theorem dX10_shortest_3 : decode cX10_shortest 3 = .ok (.lconst 1, 1) := by decide +kernel
theorem dX10_shortest_4 : decode cX10_shortest 4 = .ok (.invokestatic 90, 3) := by decide +kernel
theorem dX10_shortest_7 : decode cX10_shortest 7 = .ok (.ifCond .ne 5, 3) := by decide +kernel
theorem dX10_shortest_10 : decode cX10_shortest 10 = .ok (.iconst (-1), 1) := by decide +kernel
theorem dX10_shortest_11 : decode cX10_shortest 11 = .ok (.ireturn, 1) := by decide +kernel
theorem dX10_shortest_12 : decode cX10_shortest 12 = .ok (.aload_n 0, 1) := by decide +kernel
theorem dX10_shortest_13 : decode cX10_shortest 13 = .ok (.invokevirtual 202, 3) := by decide +kernel
theorem dX10_shortest_16 : decode cX10_shortest 16 = .ok (.aload_n 0, 1) := by decide +kernel
theorem dX10_shortest_17 : decode cX10_shortest 17 = .ok (.aload_n 0, 1) := by decide +kernel
theorem dX10_shortest_18 : decode cX10_shortest 18 = .ok (.invokevirtual 151, 3) := by decide +kernel
theorem dX10_shortest_21 : decode cX10_shortest 21 = .ok (.iconst 0, 1) := by decide +kernel
theorem dX10_shortest_22 : decode cX10_shortest 22 = .ok (.bipush (-4), 2) := by decide +kernel
theorem dX10_shortest_24 : decode cX10_shortest 24 = .ok (.invokevirtual 217, 3) := by decide +kernel
theorem dX10_shortest_27 : decode cX10_shortest 27 = .ok (.istore_n 2, 1) := by decide +kernel
theorem dX10_shortest_28 : decode cX10_shortest 28 = .ok (.iload_n 1, 1) := by decide +kernel
theorem dX10_shortest_29 : decode cX10_shortest 29 = .ok (.ifCond .ne 7, 3) := by decide +kernel
theorem dX10_shortest_32 : decode cX10_shortest 32 = .ok (.iload_n 2, 1) := by decide +kernel
theorem dX10_shortest_33 : decode cX10_shortest 33 = .ok (.goto 20, 3) := by decide +kernel
theorem dX10_shortest_36 : decode cX10_shortest 36 = .ok (.iload_n 2, 1) := by decide +kernel
theorem dX10_shortest_37 : decode cX10_shortest 37 = .ok (.ifCond .gt 8, 3) := by decide +kernel
theorem dX10_shortest_40 : decode cX10_shortest 40 = .ok (.bipush (-4), 2) := by decide +kernel
theorem dX10_shortest_42 : decode cX10_shortest 42 = .ok (.goto 11, 3) := by decide +kernel
theorem dX10_shortest_45 : decode cX10_shortest 45 = .ok (.aload_n 0, 1) := by decide +kernel
theorem dX10_shortest_46 : decode cX10_shortest 46 = .ok (.iconst 0, 1) := by decide +kernel
theorem dX10_shortest_47 : decode cX10_shortest 47 = .ok (.bipush (-4), 2) := by decide +kernel
theorem dX10_shortest_49 : decode cX10_shortest 49 = .ok (.iload_n 2, 1) := by decide +kernel
theorem dX10_shortest_50 : decode cX10_shortest 50 = .ok (.invokevirtual 221, 3) := by decide +kernel
theorem dX10_shortest_53 : decode cX10_shortest 53 = .ok (.ireturn, 1) := by decide +kernel
theorem dX10_comes_0 : decode cX10_comes 0 = .ok (.aload_n 0, 1) := by decide +kernel
theorem dX10_comes_1 : decode cX10_comes 1 = .ok (.iload_n 1, 1) := by decide +kernel
theorem dX10_comes_2 : decode cX10_comes 2 = .ok (.invokevirtual 146, 3) := by decide +kernel
theorem dX10_comes_5 : decode cX10_comes 5 = .ok (.ifCond .eq 21, 3) := by decide +kernel
theorem dX10_comes_8 : decode cX10_comes 8 = .ok (.aload_n 0, 1) := by decide +kernel
theorem dX10_comes_9 : decode cX10_comes 9 = .ok (.iload_n 2, 1) := by decide +kernel
theorem dX10_comes_10 : decode cX10_comes 10 = .ok (.invokevirtual 146, 3) := by decide +kernel
theorem dX10_comes_13 : decode cX10_comes 13 = .ok (.ifCond .eq 13, 3) := by decide +kernel
theorem dX10_comes_16 : decode cX10_comes 16 = .ok (.iload_n 3, 1) := by decide +kernel
theorem dX10_comes_17 : decode cX10_comes 17 = .ok (.i2l, 1) := by decide +kernel
theorem dX10_comes_18 : decode cX10_comes 18 = .ok (.lconst 0, 1) := by decide +kernel
theorem dX10_comes_19 : decode cX10_comes 19 = .ok (.lconst 1, 1) := by decide +kernel
theorem dX10_comes_20 : decode cX10_comes 20 = .ok (.invokestatic 90, 3) := by decide +kernel
theorem dX10_comes_23 : decode cX10_comes 23 = .ok (.ifCond .ne 5, 3) := by decide +kernel
theorem dX10_comes_26 : decode cX10_comes 26 = .ok (.iconst (-1), 1) := by decide +kernel
theorem dX10_comes_27 : decode cX10_comes 27 = .ok (.ireturn, 1) := by decide +kernel
theorem dX10_comes_28 : decode cX10_comes 28 = .ok (.aload_n 0, 1) := by decide +kernel
theorem dX10_comes_29 : decode cX10_comes 29 = .ok (.invokevirtual 202, 3) := by decide +kernel
theorem dX10_comes_32 : decode cX10_comes 32 = .ok (.aload_n 0, 1) := by decide +kernel
theorem dX10_comes_33 : decode cX10_comes 33 = .ok (.aload_n 0, 1) := by decide +kernel
theorem dX10_comes_34 : decode cX10_comes 34 = .ok (.invokevirtual 151, 3) := by decide +kernel
theorem dX10_comes_37 : decode cX10_comes 37 = .ok (.iload_n 1, 1) := by decide +kernel
theorem dX10_comes_38 : decode cX10_comes 38 = .ok (.iload_n 2, 1) := by decide +kernel
theorem dX10_comes_39 : decode cX10_comes 39 = .ok (.invokevirtual 217, 3) := by decide +kernel
theorem dX10_comes_42 : decode cX10_comes 42 = .ok (.istore 4, 2) := by decide +kernel
theorem dX10_comes_44 : decode cX10_comes 44 = .ok (.iload_n 3, 1) := by decide +kernel
theorem dX10_comes_45 : decode cX10_comes 45 = .ok (.ifCond .ne 8, 3) := by decide +kernel
theorem dX10_comes_48 : decode cX10_comes 48 = .ok (.iload 4, 2) := by decide +kernel
theorem dX10_comes_50 : decode cX10_comes 50 = .ok (.goto 21, 3) := by decide +kernel
theorem dX10_comes_53 : decode cX10_comes 53 = .ok (.iload 4, 2) := by decide +kernel
theorem dX10_comes_55 : decode cX10_comes 55 = .ok (.ifCond .gt 8, 3) := by decide +kernel
theorem dX10_comes_58 : decode cX10_comes 58 = .ok (.bipush (-4), 2) := by decide +kernel
theorem dX10_comes_60 : decode cX10_comes 60 = .ok (.goto 11, 3) := by decide +kernel
theorem dX10_comes_63 : decode cX10_comes 63 = .ok (.aload_n 0, 1) := by decide +kernel
theorem dX10_comes_64 : decode cX10_comes 64 = .ok (.iload_n 1, 1) := by decide +kernel
theorem dX10_comes_65 : decode cX10_comes 65 = .ok (.iload_n 2, 1) := by decide +kernel
theorem dX10_comes_66 : decode cX10_comes 66 = .ok (.iload 4, 2) := by decide +kernel
theorem dX10_comes_68 : decode cX10_comes 68 = .ok (.invokevirtual 221, 3) := by decide +kernel
theorem dX10_comes_71 : decode cX10_comes 71 = .ok (.ireturn, 1) := by decide +kernel
theorem dX10_bars_0 : decode cX10_bars 0 = .ok (.aload_n 0, 1) := by decide +kernel
theorem dX10_bars_1 : decode cX10_bars 1 = .ok (.iload_n 1, 1) := by decide +kernel
theorem dX10_bars_2 : decode cX10_bars 2 = .ok (.invokevirtual 146, 3) := by decide +kernel
theorem dX10_bars_5 : decode cX10_bars 5 = .ok (.ifCond .eq 11, 3) := by decide +kernel
theorem dX10_bars_8 : decode cX10_bars 8 = .ok (.aload_n 0, 1) := by decide +kernel
theorem dX10_bars_9 : decode cX10_bars 9 = .ok (.iload_n 2, 1) := by decide +kernel
theorem dX10_bars_10 : decode cX10_bars 10 = .ok (.invokevirtual 146, 3) := by decide +kernel
theorem dX10_bars_13 : decode cX10_bars 13 = .ok (.ifCond .ne 5, 3) := by decide +kernel
theorem dX10_bars_16 : decode cX10_bars 16 = .ok (.iconst (-1), 1) := by decide +kernel
theorem dX10_bars_17 : decode cX10_bars 17 = .ok (.ireturn, 1) := by decide +kernel
theorem dX10_bars_18 : decode cX10_bars 18 = .ok (.aload_n 0, 1) := by decide +kernel
theorem dX10_bars_19 : decode cX10_bars 19 = .ok (.invokevirtual 202, 3) := by decide +kernel
theorem dX10_bars_22 : decode cX10_bars 22 = .ok (.aload_n 0, 1) := by decide +kernel
theorem dX10_bars_23 : decode cX10_bars 23 = .ok (.aload_n 0, 1) := by decide +kernel
theorem dX10_bars_24 : decode cX10_bars 24 = .ok (.invokevirtual 151, 3) := by decide +kernel
theorem dX10_bars_27 : decode cX10_bars 27 = .ok (.iload_n 1, 1) := by decide +kernel
theorem dX10_bars_28 : decode cX10_bars 28 = .ok (.iload_n 2, 1) := by decide +kernel
theorem dX10_bars_29 : decode cX10_bars 29 = .ok (.invokevirtual 217, 3) := by decide +kernel
theorem dX10_bars_32 : decode cX10_bars 32 = .ok (.ifCond .lt 6, 3) := by decide +kernel
theorem dX10_bars_35 : decode cX10_bars 35 = .ok (.bipush (-4), 2) := by decide +kernel
theorem dX10_bars_37 : decode cX10_bars 37 = .ok (.ireturn, 1) := by decide +kernel
theorem dX10_bars_38 : decode cX10_bars 38 = .ok (.iconst 0, 1) := by decide +kernel
theorem dX10_bars_39 : decode cX10_bars 39 = .ok (.istore_n 3, 1) := by decide +kernel
theorem dX10_bars_40 : decode cX10_bars 40 = .ok (.iload_n 3, 1) := by decide +kernel
theorem dX10_bars_41 : decode cX10_bars 41 = .ok (.aload_n 0, 1) := by decide +kernel
theorem dX10_bars_42 : decode cX10_bars 42 = .ok (.getfield 13, 3) := by decide +kernel
theorem dX10_bars_45 : decode cX10_bars 45 = .ok (.iconst 0, 1) := by decide +kernel
theorem dX10_bars_46 : decode cX10_bars 46 = .ok (.iaload, 1) := by decide +kernel
theorem dX10_bars_47 : decode cX10_bars 47 = .ok (.if_icmp .ge 68, 3) := by decide +kernel
theorem dX10_bars_50 : decode cX10_bars 50 = .ok (.aload_n 0, 1) := by decide +kernel
theorem dX10_bars_51 : decode cX10_bars 51 = .ok (.getfield 22, 3) := by decide +kernel
theorem dX10_bars_54 : decode cX10_bars 54 = .ok (.iload_n 3, 1) := by decide +kernel
theorem dX10_bars_55 : decode cX10_bars 55 = .ok (.iaload, 1) := by decide +kernel
theorem dX10_bars_56 : decode cX10_bars 56 = .ok (.istore 4, 2) := by decide +kernel
theorem dX10_bars_58 : decode cX10_bars 58 = .ok (.aload_n 0, 1) := by decide +kernel
theorem dX10_bars_59 : decode cX10_bars 59 = .ok (.getfield 22, 3) := by decide +kernel
theorem dX10_bars_62 : decode cX10_bars 62 = .ok (.iload_n 3, 1) := by decide +kernel
theorem dX10_bars_63 : decode cX10_bars 63 = .ok (.iconst 4, 1) := by decide +kernel
theorem dX10_bars_64 : decode cX10_bars 64 = .ok (.iastore, 1) := by decide +kernel
theorem dX10_bars_65 : decode cX10_bars 65 = .ok (.aload_n 0, 1) := by decide +kernel
theorem dX10_bars_66 : decode cX10_bars 66 = .ok (.invokevirtual 202, 3) := by decide +kernel
theorem dX10_bars_69 : decode cX10_bars 69 = .ok (.iload_n 3, 1) := by decide +kernel
theorem dX10_bars_70 : decode cX10_bars 70 = .ok (.iload_n 1, 1) := by decide +kernel
theorem dX10_bars_71 : decode cX10_bars 71 = .ok (.if_icmp .eq 20, 3) := by decide +kernel
theorem dX10_bars_74 : decode cX10_bars 74 = .ok (.aload_n 0, 1) := by decide +kernel
theorem dX10_bars_75 : decode cX10_bars 75 = .ok (.aload_n 0, 1) := by decide +kernel
theorem dX10_bars_76 : decode cX10_bars 76 = .ok (.invokevirtual 151, 3) := by decide +kernel
theorem dX10_bars_79 : decode cX10_bars 79 = .ok (.iload_n 1, 1) := by decide +kernel
theorem dX10_bars_80 : decode cX10_bars 80 = .ok (.iload_n 2, 1) := by decide +kernel
theorem dX10_bars_81 : decode cX10_bars 81 = .ok (.invokevirtual 217, 3) := by decide +kernel
theorem dX10_bars_84 : decode cX10_bars 84 = .ok (.ifCond .lt 7, 3) := by decide +kernel
theorem dX10_bars_87 : decode cX10_bars 87 = .ok (.iconst 1, 1) := by decide +kernel
theorem dX10_bars_88 : decode cX10_bars 88 = .ok (.goto 4, 3) := by decide +kernel
theorem dX10_bars_91 : decode cX10_bars 91 = .ok (.iconst 0, 1) := by decide +kernel
theorem dX10_bars_92 : decode cX10_bars 92 = .ok (.istore 5, 2) := by decide +kernel
theorem dX10_bars_94 : decode cX10_bars 94 = .ok (.aload_n 0, 1) := by decide +kernel
theorem dX10_bars_95 : decode cX10_bars 95 = .ok (.getfield 22, 3) := by decide +kernel
theorem dX10_bars_98 : decode cX10_bars 98 = .ok (.iload_n 3, 1) := by decide +kernel
theorem dX10_bars_99 : decode cX10_bars 99 = .ok (.iload 4, 2) := by decide +kernel
theorem dX10_bars_101 : decode cX10_bars 101 = .ok (.iastore, 1) := by decide +kernel
theorem dX10_bars_102 : decode cX10_bars 102 = .ok (.iload 5, 2) := by decide +kernel
theorem dX10_bars_104 : decode cX10_bars 104 = .ok (.ifCond .eq 5, 3) := by decide +kernel
theorem dX10_bars_107 : decode cX10_bars 107 = .ok (.iload_n 3, 1) := by decide +kernel
theorem dX10_bars_108 : decode cX10_bars 108 = .ok (.ireturn, 1) := by decide +kernel
theorem dX10_bars_109 : decode cX10_bars 109 = .ok (.iinc 3 1, 3) := by decide +kernel
theorem dX10_bars_112 : decode cX10_bars 112 = .ok (.goto (-72), 3) := by decide +kernel
theorem dX10_bars_115 : decode cX10_bars 115 = .ok (.bipush (-4), 2) := by decide +kernel
theorem dX10_bars_117 : decode cX10_bars 117 = .ok (.ireturn, 1) := by decide +kernel
theorem dX10_best_0 : decode cX10_best 0 = .ok (.iload_n 1, 1) := by decide +kernel
theorem dX10_best_1 : decode cX10_best 1 = .ok (.iconst (-1), 1) := by decide +kernel
theorem dX10_best_2 : decode cX10_best 2 = .ok (.if_icmp .eq 13, 3) := by decide +kernel
theorem dX10_best_5 : decode cX10_best 5 = .ok (.aload_n 0, 1) := by decide +kernel
theorem dX10_best_6 : decode cX10_best 6 = .ok (.iload_n 1, 1) := by decide +kernel
theorem dX10_best_7 : decode cX10_best 7 = .ok (.invokevirtual 146, 3) := by decide +kernel
theorem dX10_best_10 : decode cX10_best 10 = .ok (.ifCond .ne 5, 3) := by decide +kernel
theorem dX10_best_13 : decode cX10_best 13 = .ok (.iconst (-1), 1) := by decide +kernel
theorem dX10_best_14 : decode cX10_best 14 = .ok (.ireturn, 1) := by decide +kernel
theorem dX10_best_15 : decode cX10_best 15 = .ok (.iconst 0, 1) := by decide +kernel
theorem dX10_best_16 : decode cX10_best 16 = .ok (.istore_n 2, 1) := by decide +kernel
theorem dX10_best_17 : decode cX10_best 17 = .ok (.ldc 224, 2) := by decide +kernel
theorem dX10_best_19 : decode cX10_best 19 = .ok (.istore_n 3, 1) := by decide +kernel
theorem dX10_best_20 : decode cX10_best 20 = .ok (.iconst 0, 1) := by decide +kernel
theorem dX10_best_21 : decode cX10_best 21 = .ok (.istore 4, 2) := by decide +kernel
theorem dX10_best_23 : decode cX10_best 23 = .ok (.iload 4, 2) := by decide +kernel
theorem dX10_best_25 : decode cX10_best 25 = .ok (.aload_n 0, 1) := by decide +kernel
theorem dX10_best_26 : decode cX10_best 26 = .ok (.getfield 158, 3) := by decide +kernel
theorem dX10_best_29 : decode cX10_best 29 = .ok (.if_icmp .ge 71, 3) := by decide +kernel
theorem dX10_best_32 : decode cX10_best 32 = .ok (.iconst 0, 1) := by decide +kernel
theorem dX10_best_33 : decode cX10_best 33 = .ok (.istore 5, 2) := by decide +kernel
theorem dX10_best_35 : decode cX10_best 35 = .ok (.iconst 0, 1) := by decide +kernel
theorem dX10_best_36 : decode cX10_best 36 = .ok (.istore 6, 2) := by decide +kernel
theorem dX10_best_38 : decode cX10_best 38 = .ok (.iload 6, 2) := by decide +kernel
theorem dX10_best_40 : decode cX10_best 40 = .ok (.aload_n 0, 1) := by decide +kernel
theorem dX10_best_41 : decode cX10_best 41 = .ok (.getfield 13, 3) := by decide +kernel
theorem dX10_best_44 : decode cX10_best 44 = .ok (.iconst 0, 1) := by decide +kernel
theorem dX10_best_45 : decode cX10_best 45 = .ok (.iaload, 1) := by decide +kernel
theorem dX10_best_46 : decode cX10_best 46 = .ok (.if_icmp .ge 22, 3) := by decide +kernel
theorem dX10_best_49 : decode cX10_best 49 = .ok (.iload 5, 2) := by decide +kernel
theorem dX10_best_51 : decode cX10_best 51 = .ok (.aload_n 0, 1) := by decide +kernel
theorem dX10_best_52 : decode cX10_best 52 = .ok (.iload 4, 2) := by decide +kernel
theorem dX10_best_54 : decode cX10_best 54 = .ok (.iload 6, 2) := by decide +kernel
theorem dX10_best_56 : decode cX10_best 56 = .ok (.invokevirtual 171, 3) := by decide +kernel
theorem dX10_best_59 : decode cX10_best 59 = .ok (.iadd, 1) := by decide +kernel
theorem dX10_best_60 : decode cX10_best 60 = .ok (.istore 5, 2) := by decide +kernel
theorem dX10_best_62 : decode cX10_best 62 = .ok (.iinc 6 1, 3) := by decide +kernel
theorem dX10_best_65 : decode cX10_best 65 = .ok (.goto (-27), 3) := by decide +kernel
theorem dX10_best_68 : decode cX10_best 68 = .ok (.iload 5, 2) := by decide +kernel
theorem dX10_best_70 : decode cX10_best 70 = .ok (.iload_n 3, 1) := by decide +kernel
theorem dX10_best_71 : decode cX10_best 71 = .ok (.if_icmp .le 8, 3) := by decide +kernel
theorem dX10_best_74 : decode cX10_best 74 = .ok (.iload 4, 2) := by decide +kernel
theorem dX10_best_76 : decode cX10_best 76 = .ok (.goto 4, 3) := by decide +kernel
theorem dX10_best_79 : decode cX10_best 79 = .ok (.iload_n 2, 1) := by decide +kernel
theorem dX10_best_80 : decode cX10_best 80 = .ok (.istore_n 2, 1) := by decide +kernel
theorem dX10_best_81 : decode cX10_best 81 = .ok (.iload 5, 2) := by decide +kernel
theorem dX10_best_83 : decode cX10_best 83 = .ok (.iload_n 3, 1) := by decide +kernel
theorem dX10_best_84 : decode cX10_best 84 = .ok (.if_icmp .le 8, 3) := by decide +kernel
theorem dX10_best_87 : decode cX10_best 87 = .ok (.iload 5, 2) := by decide +kernel
theorem dX10_best_89 : decode cX10_best 89 = .ok (.goto 4, 3) := by decide +kernel
theorem dX10_best_92 : decode cX10_best 92 = .ok (.iload_n 3, 1) := by decide +kernel
theorem dX10_best_93 : decode cX10_best 93 = .ok (.istore_n 3, 1) := by decide +kernel
theorem dX10_best_94 : decode cX10_best 94 = .ok (.iinc 4 1, 3) := by decide +kernel
theorem dX10_best_97 : decode cX10_best 97 = .ok (.goto (-74), 3) := by decide +kernel
theorem dX10_best_100 : decode cX10_best 100 = .ok (.iload_n 1, 1) := by decide +kernel
theorem dX10_best_101 : decode cX10_best 101 = .ok (.ifCond .ge 11, 3) := by decide +kernel
theorem dX10_best_104 : decode cX10_best 104 = .ok (.sipush 10000, 3) := by decide +kernel
theorem dX10_best_107 : decode cX10_best 107 = .ok (.iload_n 3, 1) := by decide +kernel
theorem dX10_best_108 : decode cX10_best 108 = .ok (.iadd, 1) := by decide +kernel
theorem dX10_best_109 : decode cX10_best 109 = .ok (.goto 9, 3) := by decide +kernel
theorem dX10_best_112 : decode cX10_best 112 = .ok (.aload_n 0, 1) := by decide +kernel
theorem dX10_best_113 : decode cX10_best 113 = .ok (.iload_n 2, 1) := by decide +kernel
theorem dX10_best_114 : decode cX10_best 114 = .ok (.iload_n 1, 1) := by decide +kernel
theorem dX10_best_115 : decode cX10_best 115 = .ok (.invokevirtual 165, 3) := by decide +kernel
theorem dX10_best_118 : decode cX10_best 118 = .ok (.ireturn, 1) := by decide +kernel
theorem dX10_priceOf_0 : decode cX10_priceOf 0 = .ok (.aload_n 0, 1) := by decide +kernel
theorem dX10_priceOf_1 : decode cX10_priceOf 1 = .ok (.iload_n 1, 1) := by decide +kernel
theorem dX10_priceOf_2 : decode cX10_priceOf 2 = .ok (.iload_n 3, 1) := by decide +kernel
theorem dX10_priceOf_3 : decode cX10_priceOf 3 = .ok (.invokevirtual 171, 3) := by decide +kernel
theorem dX10_priceOf_6 : decode cX10_priceOf 6 = .ok (.istore 4, 2) := by decide +kernel
theorem dX10_priceOf_8 : decode cX10_priceOf 8 = .ok (.aload_n 0, 1) := by decide +kernel
theorem dX10_priceOf_9 : decode cX10_priceOf 9 = .ok (.iload_n 2, 1) := by decide +kernel
theorem dX10_priceOf_10 : decode cX10_priceOf 10 = .ok (.iload_n 3, 1) := by decide +kernel
theorem dX10_priceOf_11 : decode cX10_priceOf 11 = .ok (.invokevirtual 171, 3) := by decide +kernel
theorem dX10_priceOf_14 : decode cX10_priceOf 14 = .ok (.istore 5, 2) := by decide +kernel
theorem dX10_priceOf_16 : decode cX10_priceOf 16 = .ok (.aload_n 0, 1) := by decide +kernel
theorem dX10_priceOf_17 : decode cX10_priceOf 17 = .ok (.getfield 22, 3) := by decide +kernel
theorem dX10_priceOf_20 : decode cX10_priceOf 20 = .ok (.iload_n 3, 1) := by decide +kernel
theorem dX10_priceOf_21 : decode cX10_priceOf 21 = .ok (.iaload, 1) := by decide +kernel
theorem dX10_priceOf_22 : decode cX10_priceOf 22 = .ok (.iload 4, 2) := by decide +kernel
theorem dX10_priceOf_24 : decode cX10_priceOf 24 = .ok (.iload 5, 2) := by decide +kernel
theorem dX10_priceOf_26 : decode cX10_priceOf 26 = .ok (.invokestatic 181, 3) := by decide +kernel
theorem dX10_priceOf_29 : decode cX10_priceOf 29 = .ok (.ifCond .eq 5, 3) := by decide +kernel
theorem dX10_priceOf_32 : decode cX10_priceOf 32 = .ok (.iconst 0, 1) := by decide +kernel
theorem dX10_priceOf_33 : decode cX10_priceOf 33 = .ok (.ireturn, 1) := by decide +kernel
theorem dX10_priceOf_34 : decode cX10_priceOf 34 = .ok (.aload_n 0, 1) := by decide +kernel
theorem dX10_priceOf_35 : decode cX10_priceOf 35 = .ok (.getfield 22, 3) := by decide +kernel
theorem dX10_priceOf_38 : decode cX10_priceOf 38 = .ok (.iload_n 3, 1) := by decide +kernel
theorem dX10_priceOf_39 : decode cX10_priceOf 39 = .ok (.iaload, 1) := by decide +kernel
theorem dX10_priceOf_40 : decode cX10_priceOf 40 = .ok (.iconst 3, 1) := by decide +kernel
theorem dX10_priceOf_41 : decode cX10_priceOf 41 = .ok (.if_icmp .ne 8, 3) := by decide +kernel
theorem dX10_priceOf_44 : decode cX10_priceOf 44 = .ok (.bipush (-4), 2) := by decide +kernel
theorem dX10_priceOf_46 : decode cX10_priceOf 46 = .ok (.goto 38, 3) := by decide +kernel
theorem dX10_priceOf_49 : decode cX10_priceOf 49 = .ok (.iload 4, 2) := by decide +kernel
theorem dX10_priceOf_51 : decode cX10_priceOf 51 = .ok (.iload 5, 2) := by decide +kernel
theorem dX10_priceOf_53 : decode cX10_priceOf 53 = .ok (.isub, 1) := by decide +kernel
theorem dX10_priceOf_54 : decode cX10_priceOf 54 = .ok (.aload_n 0, 1) := by decide +kernel
theorem dX10_priceOf_55 : decode cX10_priceOf 55 = .ok (.getfield 22, 3) := by decide +kernel
theorem dX10_priceOf_58 : decode cX10_priceOf 58 = .ok (.iload_n 3, 1) := by decide +kernel
theorem dX10_priceOf_59 : decode cX10_priceOf 59 = .ok (.iaload, 1) := by decide +kernel
theorem dX10_priceOf_60 : decode cX10_priceOf 60 = .ok (.ifCond .ne 7, 3) := by decide +kernel
theorem dX10_priceOf_63 : decode cX10_priceOf 63 = .ok (.iconst 1, 1) := by decide +kernel
theorem dX10_priceOf_64 : decode cX10_priceOf 64 = .ok (.goto 19, 3) := by decide +kernel
theorem dX10_priceOf_67 : decode cX10_priceOf 67 = .ok (.aload_n 0, 1) := by decide +kernel
theorem dX10_priceOf_68 : decode cX10_priceOf 68 = .ok (.getfield 22, 3) := by decide +kernel
theorem dX10_priceOf_71 : decode cX10_priceOf 71 = .ok (.iload_n 3, 1) := by decide +kernel
theorem dX10_priceOf_72 : decode cX10_priceOf 72 = .ok (.iaload, 1) := by decide +kernel
theorem dX10_priceOf_73 : decode cX10_priceOf 73 = .ok (.iconst 2, 1) := by decide +kernel
theorem dX10_priceOf_74 : decode cX10_priceOf 74 = .ok (.if_icmp .ne 8, 3) := by decide +kernel
theorem dX10_priceOf_77 : decode cX10_priceOf 77 = .ok (.bipush 10, 2) := by decide +kernel
theorem dX10_priceOf_79 : decode cX10_priceOf 79 = .ok (.goto 4, 3) := by decide +kernel
theorem dX10_priceOf_82 : decode cX10_priceOf 82 = .ok (.iconst 0, 1) := by decide +kernel
theorem dX10_priceOf_83 : decode cX10_priceOf 83 = .ok (.iadd, 1) := by decide +kernel
theorem dX10_priceOf_84 : decode cX10_priceOf 84 = .ok (.ireturn, 1) := by decide +kernel
theorem dX10_price_0 : decode cX10_price 0 = .ok (.aload_n 0, 1) := by decide +kernel
theorem dX10_price_1 : decode cX10_price 1 = .ok (.iload_n 1, 1) := by decide +kernel
theorem dX10_price_2 : decode cX10_price 2 = .ok (.invokevirtual 188, 3) := by decide +kernel
theorem dX10_price_5 : decode cX10_price 5 = .ok (.ifCond .eq 13, 3) := by decide +kernel
theorem dX10_price_8 : decode cX10_price 8 = .ok (.iload_n 2, 1) := by decide +kernel
theorem dX10_price_9 : decode cX10_price 9 = .ok (.i2l, 1) := by decide +kernel
theorem dX10_price_10 : decode cX10_price 10 = .ok (.lconst 0, 1) := by decide +kernel
theorem dX10_price_11 : decode cX10_price 11 = .ok (.lconst 1, 1) := by decide +kernel
theorem dX10_price_12 : decode cX10_price 12 = .ok (.invokestatic 90, 3) := by decide +kernel
theorem dX10_price_15 : decode cX10_price 15 = .ok (.ifCond .ne 5, 3) := by decide +kernel
theorem dX10_price_18 : decode cX10_price 18 = .ok (.iconst (-1), 1) := by decide +kernel
theorem dX10_price_19 : decode cX10_price 19 = .ok (.ireturn, 1) := by decide +kernel
theorem dX10_price_20 : decode cX10_price 20 = .ok (.aload_n 0, 1) := by decide +kernel
theorem dX10_price_21 : decode cX10_price 21 = .ok (.invokevirtual 151, 3) := by decide +kernel
theorem dX10_price_24 : decode cX10_price 24 = .ok (.istore_n 3, 1) := by decide +kernel
theorem dX10_price_25 : decode cX10_price 25 = .ok (.aload_n 0, 1) := by decide +kernel
theorem dX10_price_26 : decode cX10_price 26 = .ok (.iload_n 3, 1) := by decide +kernel
theorem dX10_price_27 : decode cX10_price 27 = .ok (.aload_n 0, 1) := by decide +kernel
theorem dX10_price_28 : decode cX10_price 28 = .ok (.iload_n 3, 1) := by decide +kernel
theorem dX10_price_29 : decode cX10_price 29 = .ok (.iload_n 1, 1) := by decide +kernel
theorem dX10_price_30 : decode cX10_price 30 = .ok (.iconst 0, 1) := by decide +kernel
theorem dX10_price_31 : decode cX10_price 31 = .ok (.invokevirtual 177, 3) := by decide +kernel
theorem dX10_price_34 : decode cX10_price 34 = .ok (.aload_n 0, 1) := by decide +kernel
theorem dX10_price_35 : decode cX10_price 35 = .ok (.iload_n 3, 1) := by decide +kernel
theorem dX10_price_36 : decode cX10_price 36 = .ok (.iload_n 1, 1) := by decide +kernel
theorem dX10_price_37 : decode cX10_price 37 = .ok (.iload_n 2, 1) := by decide +kernel
theorem dX10_price_38 : decode cX10_price 38 = .ok (.iadd, 1) := by decide +kernel
theorem dX10_price_39 : decode cX10_price 39 = .ok (.aload_n 0, 1) := by decide +kernel
theorem dX10_price_40 : decode cX10_price 40 = .ok (.getfield 13, 3) := by decide +kernel
theorem dX10_price_43 : decode cX10_price 43 = .ok (.iconst 0, 1) := by decide +kernel
theorem dX10_price_44 : decode cX10_price 44 = .ok (.iaload, 1) := by decide +kernel
theorem dX10_price_45 : decode cX10_price 45 = .ok (.irem, 1) := by decide +kernel
theorem dX10_price_46 : decode cX10_price 46 = .ok (.invokevirtual 165, 3) := by decide +kernel
theorem dX10_price_49 : decode cX10_price 49 = .ok (.invokevirtual 225, 3) := by decide +kernel
theorem dX10_price_52 : decode cX10_price 52 = .ok (.ireturn, 1) := by decide +kernel
theorem dX10_deal_0 : decode cX10_deal 0 = .ok (.aload_n 0, 1) := by decide +kernel
theorem dX10_deal_1 : decode cX10_deal 1 = .ok (.iload_n 1, 1) := by decide +kernel
theorem dX10_deal_2 : decode cX10_deal 2 = .ok (.invokevirtual 188, 3) := by decide +kernel
theorem dX10_deal_5 : decode cX10_deal 5 = .ok (.ifCond .ne 5, 3) := by decide +kernel
theorem dX10_deal_8 : decode cX10_deal 8 = .ok (.iconst (-1), 1) := by decide +kernel
theorem dX10_deal_9 : decode cX10_deal 9 = .ok (.ireturn, 1) := by decide +kernel
theorem dX10_deal_10 : decode cX10_deal 10 = .ok (.aload_n 0, 1) := by decide +kernel
theorem dX10_deal_11 : decode cX10_deal 11 = .ok (.invokevirtual 151, 3) := by decide +kernel
theorem dX10_deal_14 : decode cX10_deal 14 = .ok (.istore_n 2, 1) := by decide +kernel
theorem dX10_deal_15 : decode cX10_deal 15 = .ok (.aload_n 0, 1) := by decide +kernel
theorem dX10_deal_16 : decode cX10_deal 16 = .ok (.iload_n 2, 1) := by decide +kernel
theorem dX10_deal_17 : decode cX10_deal 17 = .ok (.iload_n 1, 1) := by decide +kernel
theorem dX10_deal_18 : decode cX10_deal 18 = .ok (.iconst 0, 1) := by decide +kernel
theorem dX10_deal_19 : decode cX10_deal 19 = .ok (.invokevirtual 177, 3) := by decide +kernel
theorem dX10_deal_22 : decode cX10_deal 22 = .ok (.istore_n 3, 1) := by decide +kernel
theorem dX10_deal_23 : decode cX10_deal 23 = .ok (.iconst 0, 1) := by decide +kernel
theorem dX10_deal_24 : decode cX10_deal 24 = .ok (.istore 4, 2) := by decide +kernel
theorem dX10_deal_26 : decode cX10_deal 26 = .ok (.iconst 0, 1) := by decide +kernel
theorem dX10_deal_27 : decode cX10_deal 27 = .ok (.istore 5, 2) := by decide +kernel
theorem dX10_deal_29 : decode cX10_deal 29 = .ok (.iload 5, 2) := by decide +kernel
theorem dX10_deal_31 : decode cX10_deal 31 = .ok (.iconst 2, 1) := by decide +kernel
theorem dX10_deal_32 : decode cX10_deal 32 = .ok (.if_icmp .ge 135, 3) := by decide +kernel
theorem dX10_deal_35 : decode cX10_deal 35 = .ok (.aload_n 0, 1) := by decide +kernel
theorem dX10_deal_36 : decode cX10_deal 36 = .ok (.iload_n 2, 1) := by decide +kernel
theorem dX10_deal_37 : decode cX10_deal 37 = .ok (.iload_n 1, 1) := by decide +kernel
theorem dX10_deal_38 : decode cX10_deal 38 = .ok (.iload 5, 2) := by decide +kernel
theorem dX10_deal_40 : decode cX10_deal 40 = .ok (.iadd, 1) := by decide +kernel
theorem dX10_deal_41 : decode cX10_deal 41 = .ok (.aload_n 0, 1) := by decide +kernel
theorem dX10_deal_42 : decode cX10_deal 42 = .ok (.getfield 13, 3) := by decide +kernel
theorem dX10_deal_45 : decode cX10_deal 45 = .ok (.iconst 0, 1) := by decide +kernel
theorem dX10_deal_46 : decode cX10_deal 46 = .ok (.iaload, 1) := by decide +kernel
theorem dX10_deal_47 : decode cX10_deal 47 = .ok (.irem, 1) := by decide +kernel
theorem dX10_deal_48 : decode cX10_deal 48 = .ok (.invokevirtual 165, 3) := by decide +kernel
theorem dX10_deal_51 : decode cX10_deal 51 = .ok (.istore 6, 2) := by decide +kernel
theorem dX10_deal_53 : decode cX10_deal 53 = .ok (.aload_n 0, 1) := by decide +kernel
theorem dX10_deal_54 : decode cX10_deal 54 = .ok (.iload_n 2, 1) := by decide +kernel
theorem dX10_deal_55 : decode cX10_deal 55 = .ok (.iload_n 1, 1) := by decide +kernel
theorem dX10_deal_56 : decode cX10_deal 56 = .ok (.iconst 1, 1) := by decide +kernel
theorem dX10_deal_57 : decode cX10_deal 57 = .ok (.iadd, 1) := by decide +kernel
theorem dX10_deal_58 : decode cX10_deal 58 = .ok (.iload 5, 2) := by decide +kernel
theorem dX10_deal_60 : decode cX10_deal 60 = .ok (.isub, 1) := by decide +kernel
theorem dX10_deal_61 : decode cX10_deal 61 = .ok (.aload_n 0, 1) := by decide +kernel
theorem dX10_deal_62 : decode cX10_deal 62 = .ok (.getfield 13, 3) := by decide +kernel
theorem dX10_deal_65 : decode cX10_deal 65 = .ok (.iconst 0, 1) := by decide +kernel
theorem dX10_deal_66 : decode cX10_deal 66 = .ok (.iaload, 1) := by decide +kernel
theorem dX10_deal_67 : decode cX10_deal 67 = .ok (.irem, 1) := by decide +kernel
theorem dX10_deal_68 : decode cX10_deal 68 = .ok (.invokevirtual 165, 3) := by decide +kernel
theorem dX10_deal_71 : decode cX10_deal 71 = .ok (.istore 7, 2) := by decide +kernel
theorem dX10_deal_73 : decode cX10_deal 73 = .ok (.aload_n 0, 1) := by decide +kernel
theorem dX10_deal_74 : decode cX10_deal 74 = .ok (.iload_n 2, 1) := by decide +kernel
theorem dX10_deal_75 : decode cX10_deal 75 = .ok (.iload_n 3, 1) := by decide +kernel
theorem dX10_deal_76 : decode cX10_deal 76 = .ok (.iload 7, 2) := by decide +kernel
theorem dX10_deal_78 : decode cX10_deal 78 = .ok (.invokevirtual 225, 3) := by decide +kernel
theorem dX10_deal_81 : decode cX10_deal 81 = .ok (.istore 8, 2) := by decide +kernel
theorem dX10_deal_83 : decode cX10_deal 83 = .ok (.aload_n 0, 1) := by decide +kernel
theorem dX10_deal_84 : decode cX10_deal 84 = .ok (.iload_n 3, 1) := by decide +kernel
theorem dX10_deal_85 : decode cX10_deal 85 = .ok (.iload 6, 2) := by decide +kernel
theorem dX10_deal_87 : decode cX10_deal 87 = .ok (.invokevirtual 171, 3) := by decide +kernel
theorem dX10_deal_90 : decode cX10_deal 90 = .ok (.aload_n 0, 1) := by decide +kernel
theorem dX10_deal_91 : decode cX10_deal 91 = .ok (.iload_n 2, 1) := by decide +kernel
theorem dX10_deal_92 : decode cX10_deal 92 = .ok (.iload 6, 2) := by decide +kernel
theorem dX10_deal_94 : decode cX10_deal 94 = .ok (.invokevirtual 171, 3) := by decide +kernel
theorem dX10_deal_97 : decode cX10_deal 97 = .ok (.isub, 1) := by decide +kernel
theorem dX10_deal_98 : decode cX10_deal 98 = .ok (.istore 9, 2) := by decide +kernel
theorem dX10_deal_100 : decode cX10_deal 100 = .ok (.aload_n 0, 1) := by decide +kernel
theorem dX10_deal_101 : decode cX10_deal 101 = .ok (.getfield 22, 3) := by decide +kernel
theorem dX10_deal_104 : decode cX10_deal 104 = .ok (.iload 6, 2) := by decide +kernel
theorem dX10_deal_106 : decode cX10_deal 106 = .ok (.iaload, 1) := by decide +kernel
theorem dX10_deal_107 : decode cX10_deal 107 = .ok (.aload_n 0, 1) := by decide +kernel
theorem dX10_deal_108 : decode cX10_deal 108 = .ok (.iload_n 2, 1) := by decide +kernel
theorem dX10_deal_109 : decode cX10_deal 109 = .ok (.iload 6, 2) := by decide +kernel
theorem dX10_deal_111 : decode cX10_deal 111 = .ok (.invokevirtual 171, 3) := by decide +kernel
theorem dX10_deal_114 : decode cX10_deal 114 = .ok (.aload_n 0, 1) := by decide +kernel
theorem dX10_deal_115 : decode cX10_deal 115 = .ok (.iload_n 3, 1) := by decide +kernel
theorem dX10_deal_116 : decode cX10_deal 116 = .ok (.iload 6, 2) := by decide +kernel
theorem dX10_deal_118 : decode cX10_deal 118 = .ok (.invokevirtual 171, 3) := by decide +kernel
theorem dX10_deal_121 : decode cX10_deal 121 = .ok (.invokestatic 181, 3) := by decide +kernel
theorem dX10_deal_124 : decode cX10_deal 124 = .ok (.ifCond .eq 21, 3) := by decide +kernel
theorem dX10_deal_127 : decode cX10_deal 127 = .ok (.iload 8, 2) := by decide +kernel
theorem dX10_deal_129 : decode cX10_deal 129 = .ok (.ifCond .lt 16, 3) := by decide +kernel
theorem dX10_deal_132 : decode cX10_deal 132 = .ok (.iload 9, 2) := by decide +kernel
theorem dX10_deal_134 : decode cX10_deal 134 = .ok (.iload 8, 2) := by decide +kernel
theorem dX10_deal_136 : decode cX10_deal 136 = .ok (.iconst 1, 1) := by decide +kernel
theorem dX10_deal_137 : decode cX10_deal 137 = .ok (.iadd, 1) := by decide +kernel
theorem dX10_deal_138 : decode cX10_deal 138 = .ok (.if_icmp .lt 7, 3) := by decide +kernel
theorem dX10_deal_141 : decode cX10_deal 141 = .ok (.iconst 1, 1) := by decide +kernel
theorem dX10_deal_142 : decode cX10_deal 142 = .ok (.goto 4, 3) := by decide +kernel
theorem dX10_deal_145 : decode cX10_deal 145 = .ok (.iconst 0, 1) := by decide +kernel
theorem dX10_deal_146 : decode cX10_deal 146 = .ok (.istore 10, 2) := by decide +kernel
theorem dX10_deal_148 : decode cX10_deal 148 = .ok (.iload 10, 2) := by decide +kernel
theorem dX10_deal_150 : decode cX10_deal 150 = .ok (.ifCond .eq 7, 3) := by decide +kernel
theorem dX10_deal_153 : decode cX10_deal 153 = .ok (.iconst 1, 1) := by decide +kernel
theorem dX10_deal_154 : decode cX10_deal 154 = .ok (.goto 5, 3) := by decide +kernel
theorem dX10_deal_157 : decode cX10_deal 157 = .ok (.iload 4, 2) := by decide +kernel
theorem dX10_deal_159 : decode cX10_deal 159 = .ok (.istore 4, 2) := by decide +kernel
theorem dX10_deal_161 : decode cX10_deal 161 = .ok (.iinc 5 1, 3) := by decide +kernel
theorem dX10_deal_164 : decode cX10_deal 164 = .ok (.goto (-135), 3) := by decide +kernel
theorem dX10_deal_167 : decode cX10_deal 167 = .ok (.iload 4, 2) := by decide +kernel
theorem dX10_deal_169 : decode cX10_deal 169 = .ok (.ireturn, 1) := by decide +kernel
theorem dX10_lie_0 : decode cX10_lie 0 = .ok (.aload_n 0, 1) := by decide +kernel
theorem dX10_lie_1 : decode cX10_lie 1 = .ok (.iload_n 1, 1) := by decide +kernel
theorem dX10_lie_2 : decode cX10_lie 2 = .ok (.invokevirtual 146, 3) := by decide +kernel
theorem dX10_lie_5 : decode cX10_lie 5 = .ok (.ifCond .eq 13, 3) := by decide +kernel
theorem dX10_lie_8 : decode cX10_lie 8 = .ok (.iload_n 2, 1) := by decide +kernel
theorem dX10_lie_9 : decode cX10_lie 9 = .ok (.i2l, 1) := by decide +kernel
theorem dX10_lie_10 : decode cX10_lie 10 = .ok (.lconst 0, 1) := by decide +kernel
theorem dX10_lie_11 : decode cX10_lie 11 = .ok (.lconst 1, 1) := by decide +kernel
theorem dX10_lie_12 : decode cX10_lie 12 = .ok (.invokestatic 90, 3) := by decide +kernel
theorem dX10_lie_15 : decode cX10_lie 15 = .ok (.ifCond .ne 5, 3) := by decide +kernel
theorem dX10_lie_18 : decode cX10_lie 18 = .ok (.iconst (-1), 1) := by decide +kernel
theorem dX10_lie_19 : decode cX10_lie 19 = .ok (.ireturn, 1) := by decide +kernel
theorem dX10_lie_20 : decode cX10_lie 20 = .ok (.aload_n 0, 1) := by decide +kernel
theorem dX10_lie_21 : decode cX10_lie 21 = .ok (.invokevirtual 211, 3) := by decide +kernel
theorem dX10_lie_24 : decode cX10_lie 24 = .ok (.ifCond .ge 6, 3) := by decide +kernel
theorem dX10_lie_27 : decode cX10_lie 27 = .ok (.bipush (-4), 2) := by decide +kernel
theorem dX10_lie_29 : decode cX10_lie 29 = .ok (.ireturn, 1) := by decide +kernel
theorem dX10_lie_30 : decode cX10_lie 30 = .ok (.aload_n 0, 1) := by decide +kernel
theorem dX10_lie_31 : decode cX10_lie 31 = .ok (.aload_n 0, 1) := by decide +kernel
theorem dX10_lie_32 : decode cX10_lie 32 = .ok (.getfield 208, 3) := by decide +kernel
theorem dX10_lie_35 : decode cX10_lie 35 = .ok (.iload_n 1, 1) := by decide +kernel
theorem dX10_lie_36 : decode cX10_lie 36 = .ok (.invokevirtual 171, 3) := by decide +kernel
theorem dX10_lie_39 : decode cX10_lie 39 = .ok (.istore_n 3, 1) := by decide +kernel
theorem dX10_lie_40 : decode cX10_lie 40 = .ok (.aload_n 0, 1) := by decide +kernel
theorem dX10_lie_41 : decode cX10_lie 41 = .ok (.getfield 16, 3) := by decide +kernel
theorem dX10_lie_44 : decode cX10_lie 44 = .ok (.iload_n 1, 1) := by decide +kernel
theorem dX10_lie_45 : decode cX10_lie 45 = .ok (.iaload, 1) := by decide +kernel
theorem dX10_lie_46 : decode cX10_lie 46 = .ok (.istore 4, 2) := by decide +kernel
theorem dX10_lie_48 : decode cX10_lie 48 = .ok (.bipush (-4), 2) := by decide +kernel
theorem dX10_lie_50 : decode cX10_lie 50 = .ok (.istore 5, 2) := by decide +kernel
theorem dX10_lie_52 : decode cX10_lie 52 = .ok (.iconst 0, 1) := by decide +kernel
theorem dX10_lie_53 : decode cX10_lie 53 = .ok (.istore 6, 2) := by decide +kernel
theorem dX10_lie_55 : decode cX10_lie 55 = .ok (.iconst 0, 1) := by decide +kernel
theorem dX10_lie_56 : decode cX10_lie 56 = .ok (.istore 7, 2) := by decide +kernel
theorem dX10_lie_58 : decode cX10_lie 58 = .ok (.iload 7, 2) := by decide +kernel
theorem dX10_lie_60 : decode cX10_lie 60 = .ok (.aload_n 0, 1) := by decide +kernel
theorem dX10_lie_61 : decode cX10_lie 61 = .ok (.getfield 13, 3) := by decide +kernel
theorem dX10_lie_64 : decode cX10_lie 64 = .ok (.iconst 0, 1) := by decide +kernel
theorem dX10_lie_65 : decode cX10_lie 65 = .ok (.iaload, 1) := by decide +kernel
theorem dX10_lie_66 : decode cX10_lie 66 = .ok (.if_icmp .ge 94, 3) := by decide +kernel
theorem dX10_lie_69 : decode cX10_lie 69 = .ok (.aload_n 0, 1) := by decide +kernel
theorem dX10_lie_70 : decode cX10_lie 70 = .ok (.getfield 16, 3) := by decide +kernel
theorem dX10_lie_73 : decode cX10_lie 73 = .ok (.iload_n 1, 1) := by decide +kernel
theorem dX10_lie_74 : decode cX10_lie 74 = .ok (.iload 7, 2) := by decide +kernel
theorem dX10_lie_76 : decode cX10_lie 76 = .ok (.iastore, 1) := by decide +kernel
theorem dX10_lie_77 : decode cX10_lie 77 = .ok (.aload_n 0, 1) := by decide +kernel
theorem dX10_lie_78 : decode cX10_lie 78 = .ok (.invokevirtual 211, 3) := by decide +kernel
theorem dX10_lie_81 : decode cX10_lie 81 = .ok (.istore 8, 2) := by decide +kernel
theorem dX10_lie_83 : decode cX10_lie 83 = .ok (.aload_n 0, 1) := by decide +kernel
theorem dX10_lie_84 : decode cX10_lie 84 = .ok (.getfield 16, 3) := by decide +kernel
theorem dX10_lie_87 : decode cX10_lie 87 = .ok (.iload_n 1, 1) := by decide +kernel
theorem dX10_lie_88 : decode cX10_lie 88 = .ok (.iload 4, 2) := by decide +kernel
theorem dX10_lie_90 : decode cX10_lie 90 = .ok (.iastore, 1) := by decide +kernel
theorem dX10_lie_91 : decode cX10_lie 91 = .ok (.iload 8, 2) := by decide +kernel
theorem dX10_lie_93 : decode cX10_lie 93 = .ok (.ifCond .lt 61, 3) := by decide +kernel
theorem dX10_lie_96 : decode cX10_lie 96 = .ok (.aload_n 0, 1) := by decide +kernel
theorem dX10_lie_97 : decode cX10_lie 97 = .ok (.aload_n 0, 1) := by decide +kernel
theorem dX10_lie_98 : decode cX10_lie 98 = .ok (.getfield 208, 3) := by decide +kernel
theorem dX10_lie_101 : decode cX10_lie 101 = .ok (.iload_n 1, 1) := by decide +kernel
theorem dX10_lie_102 : decode cX10_lie 102 = .ok (.invokevirtual 171, 3) := by decide +kernel
theorem dX10_lie_105 : decode cX10_lie 105 = .ok (.istore 9, 2) := by decide +kernel
theorem dX10_lie_107 : decode cX10_lie 107 = .ok (.iload 5, 2) := by decide +kernel
theorem dX10_lie_109 : decode cX10_lie 109 = .ok (.ifCond .lt 10, 3) := by decide +kernel
theorem dX10_lie_112 : decode cX10_lie 112 = .ok (.iload 9, 2) := by decide +kernel
theorem dX10_lie_114 : decode cX10_lie 114 = .ok (.iload 6, 2) := by decide +kernel
theorem dX10_lie_116 : decode cX10_lie 116 = .ok (.if_icmp .le 7, 3) := by decide +kernel
theorem dX10_lie_119 : decode cX10_lie 119 = .ok (.iconst 1, 1) := by decide +kernel
theorem dX10_lie_120 : decode cX10_lie 120 = .ok (.goto 4, 3) := by decide +kernel
theorem dX10_lie_123 : decode cX10_lie 123 = .ok (.iconst 0, 1) := by decide +kernel
theorem dX10_lie_124 : decode cX10_lie 124 = .ok (.istore 10, 2) := by decide +kernel
theorem dX10_lie_126 : decode cX10_lie 126 = .ok (.iload 10, 2) := by decide +kernel
theorem dX10_lie_128 : decode cX10_lie 128 = .ok (.ifCond .eq 8, 3) := by decide +kernel
theorem dX10_lie_131 : decode cX10_lie 131 = .ok (.iload 7, 2) := by decide +kernel
theorem dX10_lie_133 : decode cX10_lie 133 = .ok (.goto 5, 3) := by decide +kernel
theorem dX10_lie_136 : decode cX10_lie 136 = .ok (.iload 5, 2) := by decide +kernel
theorem dX10_lie_138 : decode cX10_lie 138 = .ok (.istore 5, 2) := by decide +kernel
theorem dX10_lie_140 : decode cX10_lie 140 = .ok (.iload 10, 2) := by decide +kernel
theorem dX10_lie_142 : decode cX10_lie 142 = .ok (.ifCond .eq 8, 3) := by decide +kernel
theorem dX10_lie_145 : decode cX10_lie 145 = .ok (.iload 9, 2) := by decide +kernel
theorem dX10_lie_147 : decode cX10_lie 147 = .ok (.goto 5, 3) := by decide +kernel
theorem dX10_lie_150 : decode cX10_lie 150 = .ok (.iload 6, 2) := by decide +kernel
theorem dX10_lie_152 : decode cX10_lie 152 = .ok (.istore 6, 2) := by decide +kernel
theorem dX10_lie_154 : decode cX10_lie 154 = .ok (.iinc 7 1, 3) := by decide +kernel
theorem dX10_lie_157 : decode cX10_lie 157 = .ok (.goto (-99), 3) := by decide +kernel
theorem dX10_lie_160 : decode cX10_lie 160 = .ok (.iload_n 2, 1) := by decide +kernel
theorem dX10_lie_161 : decode cX10_lie 161 = .ok (.ifCond .ne 8, 3) := by decide +kernel
theorem dX10_lie_164 : decode cX10_lie 164 = .ok (.iload 5, 2) := by decide +kernel
theorem dX10_lie_166 : decode cX10_lie 166 = .ok (.goto 7, 3) := by decide +kernel
theorem dX10_lie_169 : decode cX10_lie 169 = .ok (.iload 6, 2) := by decide +kernel
theorem dX10_lie_171 : decode cX10_lie 171 = .ok (.iload_n 3, 1) := by decide +kernel
theorem dX10_lie_172 : decode cX10_lie 172 = .ok (.isub, 1) := by decide +kernel
theorem dX10_lie_173 : decode cX10_lie 173 = .ok (.ireturn, 1) := by decide +kernel
theorem dX10_seen_0 : decode cX10_seen 0 = .ok (.aload_n 0, 1) := by decide +kernel
theorem dX10_seen_1 : decode cX10_seen 1 = .ok (.iload_n 1, 1) := by decide +kernel
theorem dX10_seen_2 : decode cX10_seen 2 = .ok (.invokevirtual 146, 3) := by decide +kernel
theorem dX10_seen_5 : decode cX10_seen 5 = .ok (.ifCond .eq 24, 3) := by decide +kernel
theorem dX10_seen_8 : decode cX10_seen 8 = .ok (.aload_n 0, 1) := by decide +kernel
theorem dX10_seen_9 : decode cX10_seen 9 = .ok (.iload_n 2, 1) := by decide +kernel
theorem dX10_seen_10 : decode cX10_seen 10 = .ok (.invokevirtual 146, 3) := by decide +kernel
theorem dX10_seen_13 : decode cX10_seen 13 = .ok (.ifCond .eq 16, 3) := by decide +kernel
theorem dX10_seen_16 : decode cX10_seen 16 = .ok (.aload_n 0, 1) := by decide +kernel
theorem dX10_seen_17 : decode cX10_seen 17 = .ok (.iload_n 3, 1) := by decide +kernel
theorem dX10_seen_18 : decode cX10_seen 18 = .ok (.invokevirtual 146, 3) := by decide +kernel
theorem dX10_seen_21 : decode cX10_seen 21 = .ok (.ifCond .eq 8, 3) := by decide +kernel
theorem dX10_seen_24 : decode cX10_seen 24 = .ok (.iload_n 2, 1) := by decide +kernel
theorem dX10_seen_25 : decode cX10_seen 25 = .ok (.iload_n 3, 1) := by decide +kernel
theorem dX10_seen_26 : decode cX10_seen 26 = .ok (.if_icmp .ne 5, 3) := by decide +kernel
theorem dX10_seen_29 : decode cX10_seen 29 = .ok (.iconst (-1), 1) := by decide +kernel
theorem dX10_seen_30 : decode cX10_seen 30 = .ok (.ireturn, 1) := by decide +kernel
theorem dX10_seen_31 : decode cX10_seen 31 = .ok (.aload_n 0, 1) := by decide +kernel
theorem dX10_seen_32 : decode cX10_seen 32 = .ok (.getfield 137, 3) := by decide +kernel
theorem dX10_seen_35 : decode cX10_seen 35 = .ok (.bipush 8, 2) := by decide +kernel
theorem dX10_seen_37 : decode cX10_seen 37 = .ok (.if_icmp .ne 6, 3) := by decide +kernel
theorem dX10_seen_40 : decode cX10_seen 40 = .ok (.bipush (-3), 2) := by decide +kernel
theorem dX10_seen_42 : decode cX10_seen 42 = .ok (.ireturn, 1) := by decide +kernel
theorem dX10_seen_43 : decode cX10_seen 43 = .ok (.aload_n 0, 1) := by decide +kernel
theorem dX10_seen_44 : decode cX10_seen 44 = .ok (.getfield 40, 3) := by decide +kernel
theorem dX10_seen_47 : decode cX10_seen 47 = .ok (.aload_n 0, 1) := by decide +kernel
theorem dX10_seen_48 : decode cX10_seen 48 = .ok (.getfield 137, 3) := by decide +kernel
theorem dX10_seen_51 : decode cX10_seen 51 = .ok (.iload_n 1, 1) := by decide +kernel
theorem dX10_seen_52 : decode cX10_seen 52 = .ok (.iastore, 1) := by decide +kernel
theorem dX10_seen_53 : decode cX10_seen 53 = .ok (.aload_n 0, 1) := by decide +kernel
theorem dX10_seen_54 : decode cX10_seen 54 = .ok (.getfield 43, 3) := by decide +kernel
theorem dX10_seen_57 : decode cX10_seen 57 = .ok (.aload_n 0, 1) := by decide +kernel
theorem dX10_seen_58 : decode cX10_seen 58 = .ok (.getfield 137, 3) := by decide +kernel
theorem dX10_seen_61 : decode cX10_seen 61 = .ok (.iload_n 2, 1) := by decide +kernel
theorem dX10_seen_62 : decode cX10_seen 62 = .ok (.iastore, 1) := by decide +kernel
theorem dX10_seen_63 : decode cX10_seen 63 = .ok (.aload_n 0, 1) := by decide +kernel
theorem dX10_seen_64 : decode cX10_seen 64 = .ok (.getfield 46, 3) := by decide +kernel
theorem dX10_seen_67 : decode cX10_seen 67 = .ok (.aload_n 0, 1) := by decide +kernel
theorem dX10_seen_68 : decode cX10_seen 68 = .ok (.getfield 137, 3) := by decide +kernel
theorem dX10_seen_71 : decode cX10_seen 71 = .ok (.iload_n 3, 1) := by decide +kernel
theorem dX10_seen_72 : decode cX10_seen 72 = .ok (.iastore, 1) := by decide +kernel
theorem dX10_seen_73 : decode cX10_seen 73 = .ok (.aload_n 0, 1) := by decide +kernel
theorem dX10_seen_74 : decode cX10_seen 74 = .ok (.getfield 49, 3) := by decide +kernel
theorem dX10_seen_77 : decode cX10_seen 77 = .ok (.aload_n 0, 1) := by decide +kernel
theorem dX10_seen_78 : decode cX10_seen 78 = .ok (.getfield 137, 3) := by decide +kernel
theorem dX10_seen_81 : decode cX10_seen 81 = .ok (.iload 4, 2) := by decide +kernel
theorem dX10_seen_83 : decode cX10_seen 83 = .ok (.ifCond .eq 7, 3) := by decide +kernel
theorem dX10_seen_86 : decode cX10_seen 86 = .ok (.iconst 1, 1) := by decide +kernel
theorem dX10_seen_87 : decode cX10_seen 87 = .ok (.goto 4, 3) := by decide +kernel
theorem dX10_seen_90 : decode cX10_seen 90 = .ok (.iconst 0, 1) := by decide +kernel
theorem dX10_seen_91 : decode cX10_seen 91 = .ok (.iastore, 1) := by decide +kernel
theorem dX10_seen_92 : decode cX10_seen 92 = .ok (.aload_n 0, 1) := by decide +kernel
theorem dX10_seen_93 : decode cX10_seen 93 = .ok (.dup, 1) := by decide +kernel
theorem dX10_seen_94 : decode cX10_seen 94 = .ok (.getfield 137, 3) := by decide +kernel
theorem dX10_seen_97 : decode cX10_seen 97 = .ok (.iconst 1, 1) := by decide +kernel
theorem dX10_seen_98 : decode cX10_seen 98 = .ok (.iadd, 1) := by decide +kernel
theorem dX10_seen_99 : decode cX10_seen 99 = .ok (.putfield 137, 3) := by decide +kernel
theorem dX10_seen_102 : decode cX10_seen 102 = .ok (.aload_n 0, 1) := by decide +kernel
theorem dX10_seen_103 : decode cX10_seen 103 = .ok (.getfield 137, 3) := by decide +kernel
theorem dX10_seen_106 : decode cX10_seen 106 = .ok (.ireturn, 1) := by decide +kernel
theorem dX10_forget_0 : decode cX10_forget 0 = .ok (.aload_n 0, 1) := by decide +kernel
theorem dX10_forget_1 : decode cX10_forget 1 = .ok (.getfield 137, 3) := by decide +kernel
theorem dX10_forget_4 : decode cX10_forget 4 = .ok (.istore_n 1, 1) := by decide +kernel
theorem dX10_forget_5 : decode cX10_forget 5 = .ok (.aload_n 0, 1) := by decide +kernel
theorem dX10_forget_6 : decode cX10_forget 6 = .ok (.iconst 0, 1) := by decide +kernel
theorem dX10_forget_7 : decode cX10_forget 7 = .ok (.putfield 137, 3) := by decide +kernel
theorem dX10_forget_10 : decode cX10_forget 10 = .ok (.iload_n 1, 1) := by decide +kernel
theorem dX10_forget_11 : decode cX10_forget 11 = .ok (.ireturn, 1) := by decide +kernel
theorem dX10_isFit_0 : decode cX10_isFit 0 = .ok (.iconst 1, 1) := by decide +kernel
theorem dX10_isFit_1 : decode cX10_isFit 1 = .ok (.istore_n 3, 1) := by decide +kernel
theorem dX10_isFit_2 : decode cX10_isFit 2 = .ok (.iconst 0, 1) := by decide +kernel
theorem dX10_isFit_3 : decode cX10_isFit 3 = .ok (.istore 4, 2) := by decide +kernel
theorem dX10_isFit_5 : decode cX10_isFit 5 = .ok (.iload 4, 2) := by decide +kernel
theorem dX10_isFit_7 : decode cX10_isFit 7 = .ok (.aload_n 0, 1) := by decide +kernel
theorem dX10_isFit_8 : decode cX10_isFit 8 = .ok (.getfield 137, 3) := by decide +kernel
theorem dX10_isFit_11 : decode cX10_isFit 11 = .ok (.if_icmp .ge 102, 3) := by decide +kernel
theorem dX10_isFit_14 : decode cX10_isFit 14 = .ok (.aload_n 0, 1) := by decide +kernel
theorem dX10_isFit_15 : decode cX10_isFit 15 = .ok (.getfield 22, 3) := by decide +kernel
theorem dX10_isFit_18 : decode cX10_isFit 18 = .ok (.iload_n 1, 1) := by decide +kernel
theorem dX10_isFit_19 : decode cX10_isFit 19 = .ok (.iaload, 1) := by decide +kernel
theorem dX10_isFit_20 : decode cX10_isFit 20 = .ok (.aload_n 0, 1) := by decide +kernel
theorem dX10_isFit_21 : decode cX10_isFit 21 = .ok (.getfield 19, 3) := by decide +kernel
theorem dX10_isFit_24 : decode cX10_isFit 24 = .ok (.iload_n 1, 1) := by decide +kernel
theorem dX10_isFit_25 : decode cX10_isFit 25 = .ok (.iaload, 1) := by decide +kernel
theorem dX10_isFit_26 : decode cX10_isFit 26 = .ok (.ineg, 1) := by decide +kernel
theorem dX10_isFit_27 : decode cX10_isFit 27 = .ok (.aload_n 0, 1) := by decide +kernel
theorem dX10_isFit_28 : decode cX10_isFit 28 = .ok (.aload_n 0, 1) := by decide +kernel
theorem dX10_isFit_29 : decode cX10_isFit 29 = .ok (.getfield 43, 3) := by decide +kernel
theorem dX10_isFit_32 : decode cX10_isFit 32 = .ok (.iload 4, 2) := by decide +kernel
theorem dX10_isFit_34 : decode cX10_isFit 34 = .ok (.iaload, 1) := by decide +kernel
theorem dX10_isFit_35 : decode cX10_isFit 35 = .ok (.iload_n 2, 1) := by decide +kernel
theorem dX10_isFit_36 : decode cX10_isFit 36 = .ok (.invokevirtual 168, 3) := by decide +kernel
theorem dX10_isFit_39 : decode cX10_isFit 39 = .ok (.imul, 1) := by decide +kernel
theorem dX10_isFit_40 : decode cX10_isFit 40 = .ok (.aload_n 0, 1) := by decide +kernel
theorem dX10_isFit_41 : decode cX10_isFit 41 = .ok (.getfield 19, 3) := by decide +kernel
theorem dX10_isFit_44 : decode cX10_isFit 44 = .ok (.iload_n 1, 1) := by decide +kernel
theorem dX10_isFit_45 : decode cX10_isFit 45 = .ok (.iaload, 1) := by decide +kernel
theorem dX10_isFit_46 : decode cX10_isFit 46 = .ok (.ineg, 1) := by decide +kernel
theorem dX10_isFit_47 : decode cX10_isFit 47 = .ok (.aload_n 0, 1) := by decide +kernel
theorem dX10_isFit_48 : decode cX10_isFit 48 = .ok (.aload_n 0, 1) := by decide +kernel
theorem dX10_isFit_49 : decode cX10_isFit 49 = .ok (.getfield 46, 3) := by decide +kernel
theorem dX10_isFit_52 : decode cX10_isFit 52 = .ok (.iload 4, 2) := by decide +kernel
theorem dX10_isFit_54 : decode cX10_isFit 54 = .ok (.iaload, 1) := by decide +kernel
theorem dX10_isFit_55 : decode cX10_isFit 55 = .ok (.iload_n 2, 1) := by decide +kernel
theorem dX10_isFit_56 : decode cX10_isFit 56 = .ok (.invokevirtual 168, 3) := by decide +kernel
theorem dX10_isFit_59 : decode cX10_isFit 59 = .ok (.imul, 1) := by decide +kernel
theorem dX10_isFit_60 : decode cX10_isFit 60 = .ok (.invokestatic 181, 3) := by decide +kernel
theorem dX10_isFit_63 : decode cX10_isFit 63 = .ok (.istore 5, 2) := by decide +kernel
theorem dX10_isFit_65 : decode cX10_isFit 65 = .ok (.iload_n 3, 1) := by decide +kernel
theorem dX10_isFit_66 : decode cX10_isFit 66 = .ok (.ifCond .eq 39, 3) := by decide +kernel
theorem dX10_isFit_69 : decode cX10_isFit 69 = .ok (.aload_n 0, 1) := by decide +kernel
theorem dX10_isFit_70 : decode cX10_isFit 70 = .ok (.getfield 40, 3) := by decide +kernel
theorem dX10_isFit_73 : decode cX10_isFit 73 = .ok (.iload 4, 2) := by decide +kernel
theorem dX10_isFit_75 : decode cX10_isFit 75 = .ok (.iaload, 1) := by decide +kernel
theorem dX10_isFit_76 : decode cX10_isFit 76 = .ok (.iload_n 1, 1) := by decide +kernel
theorem dX10_isFit_77 : decode cX10_isFit 77 = .ok (.if_icmp .ne 24, 3) := by decide +kernel
theorem dX10_isFit_80 : decode cX10_isFit 80 = .ok (.iload 5, 2) := by decide +kernel
theorem dX10_isFit_82 : decode cX10_isFit 82 = .ok (.aload_n 0, 1) := by decide +kernel
theorem dX10_isFit_83 : decode cX10_isFit 83 = .ok (.getfield 49, 3) := by decide +kernel
theorem dX10_isFit_86 : decode cX10_isFit 86 = .ok (.iload 4, 2) := by decide +kernel
theorem dX10_isFit_88 : decode cX10_isFit 88 = .ok (.iaload, 1) := by decide +kernel
theorem dX10_isFit_89 : decode cX10_isFit 89 = .ok (.iconst 1, 1) := by decide +kernel
theorem dX10_isFit_90 : decode cX10_isFit 90 = .ok (.if_icmp .ne 7, 3) := by decide +kernel
theorem dX10_isFit_93 : decode cX10_isFit 93 = .ok (.iconst 1, 1) := by decide +kernel
theorem dX10_isFit_94 : decode cX10_isFit 94 = .ok (.goto 4, 3) := by decide +kernel
theorem dX10_isFit_97 : decode cX10_isFit 97 = .ok (.iconst 0, 1) := by decide +kernel
theorem dX10_isFit_98 : decode cX10_isFit 98 = .ok (.if_icmp .ne 7, 3) := by decide +kernel
theorem dX10_isFit_101 : decode cX10_isFit 101 = .ok (.iconst 1, 1) := by decide +kernel
theorem dX10_isFit_102 : decode cX10_isFit 102 = .ok (.goto 4, 3) := by decide +kernel
theorem dX10_isFit_105 : decode cX10_isFit 105 = .ok (.iconst 0, 1) := by decide +kernel
theorem dX10_isFit_106 : decode cX10_isFit 106 = .ok (.istore_n 3, 1) := by decide +kernel
theorem dX10_isFit_107 : decode cX10_isFit 107 = .ok (.iinc 4 1, 3) := by decide +kernel
theorem dX10_isFit_110 : decode cX10_isFit 110 = .ok (.goto (-105), 3) := by decide +kernel
theorem dX10_isFit_113 : decode cX10_isFit 113 = .ok (.iload_n 3, 1) := by decide +kernel
theorem dX10_isFit_114 : decode cX10_isFit 114 = .ok (.ireturn, 1) := by decide +kernel
theorem dX10_fits_0 : decode cX10_fits 0 = .ok (.aload_n 0, 1) := by decide +kernel
theorem dX10_fits_1 : decode cX10_fits 1 = .ok (.iload_n 1, 1) := by decide +kernel
theorem dX10_fits_2 : decode cX10_fits 2 = .ok (.invokevirtual 146, 3) := by decide +kernel
theorem dX10_fits_5 : decode cX10_fits 5 = .ok (.ifCond .eq 13, 3) := by decide +kernel
theorem dX10_fits_8 : decode cX10_fits 8 = .ok (.iload_n 2, 1) := by decide +kernel
theorem dX10_fits_9 : decode cX10_fits 9 = .ok (.i2l, 1) := by decide +kernel
theorem dX10_fits_10 : decode cX10_fits 10 = .ok (.lconst 0, 1) := by decide +kernel
theorem dX10_fits_11 : decode cX10_fits 11 = .ok (.lconst 1, 1) := by decide +kernel
theorem dX10_fits_12 : decode cX10_fits 12 = .ok (.invokestatic 90, 3) := by decide +kernel
theorem dX10_fits_15 : decode cX10_fits 15 = .ok (.ifCond .ne 5, 3) := by decide +kernel
theorem dX10_fits_18 : decode cX10_fits 18 = .ok (.iconst (-1), 1) := by decide +kernel
theorem dX10_fits_19 : decode cX10_fits 19 = .ok (.ireturn, 1) := by decide +kernel
theorem dX10_fits_20 : decode cX10_fits 20 = .ok (.iconst 0, 1) := by decide +kernel
theorem dX10_fits_21 : decode cX10_fits 21 = .ok (.istore_n 3, 1) := by decide +kernel
theorem dX10_fits_22 : decode cX10_fits 22 = .ok (.bipush (-4), 2) := by decide +kernel
theorem dX10_fits_24 : decode cX10_fits 24 = .ok (.istore 4, 2) := by decide +kernel
theorem dX10_fits_26 : decode cX10_fits 26 = .ok (.aload_n 0, 1) := by decide +kernel
theorem dX10_fits_27 : decode cX10_fits 27 = .ok (.getfield 13, 3) := by decide +kernel
theorem dX10_fits_30 : decode cX10_fits 30 = .ok (.iconst 0, 1) := by decide +kernel
theorem dX10_fits_31 : decode cX10_fits 31 = .ok (.iaload, 1) := by decide +kernel
theorem dX10_fits_32 : decode cX10_fits 32 = .ok (.iconst 1, 1) := by decide +kernel
theorem dX10_fits_33 : decode cX10_fits 33 = .ok (.isub, 1) := by decide +kernel
theorem dX10_fits_34 : decode cX10_fits 34 = .ok (.istore 5, 2) := by decide +kernel
theorem dX10_fits_36 : decode cX10_fits 36 = .ok (.iload 5, 2) := by decide +kernel
theorem dX10_fits_38 : decode cX10_fits 38 = .ok (.ifCond .lt 46, 3) := by decide +kernel
theorem dX10_fits_41 : decode cX10_fits 41 = .ok (.iload_n 3, 1) := by decide +kernel
theorem dX10_fits_42 : decode cX10_fits 42 = .ok (.aload_n 0, 1) := by decide +kernel
theorem dX10_fits_43 : decode cX10_fits 43 = .ok (.iload_n 1, 1) := by decide +kernel
theorem dX10_fits_44 : decode cX10_fits 44 = .ok (.iload 5, 2) := by decide +kernel
theorem dX10_fits_46 : decode cX10_fits 46 = .ok (.invokevirtual 228, 3) := by decide +kernel
theorem dX10_fits_49 : decode cX10_fits 49 = .ok (.ifCond .eq 7, 3) := by decide +kernel
theorem dX10_fits_52 : decode cX10_fits 52 = .ok (.iconst 1, 1) := by decide +kernel
theorem dX10_fits_53 : decode cX10_fits 53 = .ok (.goto 4, 3) := by decide +kernel
theorem dX10_fits_56 : decode cX10_fits 56 = .ok (.iconst 0, 1) := by decide +kernel
theorem dX10_fits_57 : decode cX10_fits 57 = .ok (.iadd, 1) := by decide +kernel
theorem dX10_fits_58 : decode cX10_fits 58 = .ok (.istore_n 3, 1) := by decide +kernel
theorem dX10_fits_59 : decode cX10_fits 59 = .ok (.aload_n 0, 1) := by decide +kernel
theorem dX10_fits_60 : decode cX10_fits 60 = .ok (.iload_n 1, 1) := by decide +kernel
theorem dX10_fits_61 : decode cX10_fits 61 = .ok (.iload 5, 2) := by decide +kernel
theorem dX10_fits_63 : decode cX10_fits 63 = .ok (.invokevirtual 228, 3) := by decide +kernel
theorem dX10_fits_66 : decode cX10_fits 66 = .ok (.ifCond .eq 8, 3) := by decide +kernel
theorem dX10_fits_69 : decode cX10_fits 69 = .ok (.iload 5, 2) := by decide +kernel
theorem dX10_fits_71 : decode cX10_fits 71 = .ok (.goto 5, 3) := by decide +kernel
theorem dX10_fits_74 : decode cX10_fits 74 = .ok (.iload 4, 2) := by decide +kernel
theorem dX10_fits_76 : decode cX10_fits 76 = .ok (.istore 4, 2) := by decide +kernel
theorem dX10_fits_78 : decode cX10_fits 78 = .ok (.iinc 5 (-1), 3) := by decide +kernel
theorem dX10_fits_81 : decode cX10_fits 81 = .ok (.goto (-45), 3) := by decide +kernel
theorem dX10_fits_84 : decode cX10_fits 84 = .ok (.iload_n 2, 1) := by decide +kernel
theorem dX10_fits_85 : decode cX10_fits 85 = .ok (.ifCond .ne 7, 3) := by decide +kernel
theorem dX10_fits_88 : decode cX10_fits 88 = .ok (.iload_n 3, 1) := by decide +kernel
theorem dX10_fits_89 : decode cX10_fits 89 = .ok (.goto 5, 3) := by decide +kernel
theorem dX10_fits_92 : decode cX10_fits 92 = .ok (.iload 4, 2) := by decide +kernel
theorem dX10_fits_94 : decode cX10_fits 94 = .ok (.ireturn, 1) := by decide +kernel
theorem dX10_mean_0 : decode cX10_mean 0 = .ok (.aload_n 0, 1) := by decide +kernel
theorem dX10_mean_1 : decode cX10_mean 1 = .ok (.iload_n 1, 1) := by decide +kernel
theorem dX10_mean_2 : decode cX10_mean 2 = .ok (.invokevirtual 146, 3) := by decide +kernel
theorem dX10_mean_5 : decode cX10_mean 5 = .ok (.ifCond .eq 25, 3) := by decide +kernel
theorem dX10_mean_8 : decode cX10_mean 8 = .ok (.iload_n 2, 1) := by decide +kernel
theorem dX10_mean_9 : decode cX10_mean 9 = .ok (.i2l, 1) := by decide +kernel
theorem dX10_mean_10 : decode cX10_mean 10 = .ok (.lconst 0, 1) := by decide +kernel
theorem dX10_mean_11 : decode cX10_mean 11 = .ok (.ldc2_w 232, 3) := by decide +kernel
theorem dX10_mean_14 : decode cX10_mean 14 = .ok (.invokestatic 90, 3) := by decide +kernel
theorem dX10_mean_17 : decode cX10_mean 17 = .ok (.ifCond .eq 13, 3) := by decide +kernel
theorem dX10_mean_20 : decode cX10_mean 20 = .ok (.iload_n 3, 1) := by decide +kernel
theorem dX10_mean_21 : decode cX10_mean 21 = .ok (.i2l, 1) := by decide +kernel
theorem dX10_mean_22 : decode cX10_mean 22 = .ok (.lconst 0, 1) := by decide +kernel
theorem dX10_mean_23 : decode cX10_mean 23 = .ok (.lconst 1, 1) := by decide +kernel
theorem dX10_mean_24 : decode cX10_mean 24 = .ok (.invokestatic 90, 3) := by decide +kernel
theorem dX10_mean_27 : decode cX10_mean 27 = .ok (.ifCond .ne 5, 3) := by decide +kernel
theorem dX10_mean_30 : decode cX10_mean 30 = .ok (.iconst (-1), 1) := by decide +kernel
theorem dX10_mean_31 : decode cX10_mean 31 = .ok (.ireturn, 1) := by decide +kernel
theorem dX10_mean_32 : decode cX10_mean 32 = .ok (.aload_n 0, 1) := by decide +kernel
theorem dX10_mean_33 : decode cX10_mean 33 = .ok (.invokevirtual 202, 3) := by decide +kernel
theorem dX10_mean_36 : decode cX10_mean 36 = .ok (.iconst 0, 1) := by decide +kernel
theorem dX10_mean_37 : decode cX10_mean 37 = .ok (.istore 4, 2) := by decide +kernel
theorem dX10_mean_39 : decode cX10_mean 39 = .ok (.iload 4, 2) := by decide +kernel
theorem dX10_mean_41 : decode cX10_mean 41 = .ok (.aload_n 0, 1) := by decide +kernel
theorem dX10_mean_42 : decode cX10_mean 42 = .ok (.getfield 158, 3) := by decide +kernel
theorem dX10_mean_45 : decode cX10_mean 45 = .ok (.if_icmp .ge 30, 3) := by decide +kernel
theorem dX10_mean_48 : decode cX10_mean 48 = .ok (.aload_n 0, 1) := by decide +kernel
theorem dX10_mean_49 : decode cX10_mean 49 = .ok (.getfield 74, 3) := by decide +kernel
theorem dX10_mean_52 : decode cX10_mean 52 = .ok (.iload 4, 2) := by decide +kernel
theorem dX10_mean_54 : decode cX10_mean 54 = .ok (.iload 4, 2) := by decide +kernel
theorem dX10_mean_56 : decode cX10_mean 56 = .ok (.aload_n 0, 1) := by decide +kernel
theorem dX10_mean_57 : decode cX10_mean 57 = .ok (.invokevirtual 151, 3) := by decide +kernel
theorem dX10_mean_60 : decode cX10_mean 60 = .ok (.if_icmp .ne 7, 3) := by decide +kernel
theorem dX10_mean_63 : decode cX10_mean 63 = .ok (.lconst 1, 1) := by decide +kernel
theorem dX10_mean_64 : decode cX10_mean 64 = .ok (.goto 4, 3) := by decide +kernel
theorem dX10_mean_67 : decode cX10_mean 67 = .ok (.lconst 0, 1) := by decide +kernel
theorem dX10_mean_68 : decode cX10_mean 68 = .ok (.lastore, 1) := by decide +kernel
theorem dX10_mean_69 : decode cX10_mean 69 = .ok (.iinc 4 1, 3) := by decide +kernel
theorem dX10_mean_72 : decode cX10_mean 72 = .ok (.goto (-33), 3) := by decide +kernel
theorem dX10_mean_75 : decode cX10_mean 75 = .ok (.lconst 1, 1) := by decide +kernel
theorem dX10_mean_76 : decode cX10_mean 76 = .ok (.lstore 4, 2) := by decide +kernel
theorem dX10_mean_78 : decode cX10_mean 78 = .ok (.iconst 0, 1) := by decide +kernel
theorem dX10_mean_79 : decode cX10_mean 79 = .ok (.istore 6, 2) := by decide +kernel
theorem dX10_mean_81 : decode cX10_mean 81 = .ok (.iload 6, 2) := by decide +kernel
theorem dX10_mean_83 : decode cX10_mean 83 = .ok (.iload_n 2, 1) := by decide +kernel
theorem dX10_mean_84 : decode cX10_mean 84 = .ok (.if_icmp .ge 155, 3) := by decide +kernel
theorem dX10_mean_87 : decode cX10_mean 87 = .ok (.iconst 0, 1) := by decide +kernel
theorem dX10_mean_88 : decode cX10_mean 88 = .ok (.istore 7, 2) := by decide +kernel
theorem dX10_mean_90 : decode cX10_mean 90 = .ok (.iload 7, 2) := by decide +kernel
theorem dX10_mean_92 : decode cX10_mean 92 = .ok (.aload_n 0, 1) := by decide +kernel
theorem dX10_mean_93 : decode cX10_mean 93 = .ok (.getfield 158, 3) := by decide +kernel
theorem dX10_mean_96 : decode cX10_mean 96 = .ok (.if_icmp .ge 17, 3) := by decide +kernel
theorem dX10_mean_99 : decode cX10_mean 99 = .ok (.aload_n 0, 1) := by decide +kernel
theorem dX10_mean_100 : decode cX10_mean 100 = .ok (.getfield 78, 3) := by decide +kernel
theorem dX10_mean_103 : decode cX10_mean 103 = .ok (.iload 7, 2) := by decide +kernel
theorem dX10_mean_105 : decode cX10_mean 105 = .ok (.lconst 0, 1) := by decide +kernel
theorem dX10_mean_106 : decode cX10_mean 106 = .ok (.lastore, 1) := by decide +kernel
theorem dX10_mean_107 : decode cX10_mean 107 = .ok (.iinc 7 1, 3) := by decide +kernel
theorem dX10_mean_110 : decode cX10_mean 110 = .ok (.goto (-20), 3) := by decide +kernel
theorem dX10_mean_113 : decode cX10_mean 113 = .ok (.iconst 0, 1) := by decide +kernel
theorem dX10_mean_114 : decode cX10_mean 114 = .ok (.istore 7, 2) := by decide +kernel
theorem dX10_mean_116 : decode cX10_mean 116 = .ok (.iload 7, 2) := by decide +kernel
theorem dX10_mean_118 : decode cX10_mean 118 = .ok (.aload_n 0, 1) := by decide +kernel
theorem dX10_mean_119 : decode cX10_mean 119 = .ok (.getfield 158, 3) := by decide +kernel
theorem dX10_mean_122 : decode cX10_mean 122 = .ok (.if_icmp .ge 69, 3) := by decide +kernel
theorem dX10_mean_125 : decode cX10_mean 125 = .ok (.iconst 0, 1) := by decide +kernel
theorem dX10_mean_126 : decode cX10_mean 126 = .ok (.istore 8, 2) := by decide +kernel
theorem dX10_mean_128 : decode cX10_mean 128 = .ok (.iload 8, 2) := by decide +kernel
theorem dX10_mean_130 : decode cX10_mean 130 = .ok (.aload_n 0, 1) := by decide +kernel
theorem dX10_mean_131 : decode cX10_mean 131 = .ok (.invokevirtual 174, 3) := by decide +kernel
theorem dX10_mean_134 : decode cX10_mean 134 = .ok (.if_icmp .ge 51, 3) := by decide +kernel
theorem dX10_mean_137 : decode cX10_mean 137 = .ok (.aload_n 0, 1) := by decide +kernel
theorem dX10_mean_138 : decode cX10_mean 138 = .ok (.getfield 65, 3) := by decide +kernel
theorem dX10_mean_141 : decode cX10_mean 141 = .ok (.bipush 6, 2) := by decide +kernel
theorem dX10_mean_143 : decode cX10_mean 143 = .ok (.iload 7, 2) := by decide +kernel
theorem dX10_mean_145 : decode cX10_mean 145 = .ok (.imul, 1) := by decide +kernel
theorem dX10_mean_146 : decode cX10_mean 146 = .ok (.iload 8, 2) := by decide +kernel
theorem dX10_mean_148 : decode cX10_mean 148 = .ok (.iadd, 1) := by decide +kernel
theorem dX10_mean_149 : decode cX10_mean 149 = .ok (.iaload, 1) := by decide +kernel
theorem dX10_mean_150 : decode cX10_mean 150 = .ok (.istore 9, 2) := by decide +kernel
theorem dX10_mean_152 : decode cX10_mean 152 = .ok (.aload_n 0, 1) := by decide +kernel
theorem dX10_mean_153 : decode cX10_mean 153 = .ok (.getfield 78, 3) := by decide +kernel
theorem dX10_mean_156 : decode cX10_mean 156 = .ok (.iload 9, 2) := by decide +kernel
theorem dX10_mean_158 : decode cX10_mean 158 = .ok (.ifCond .ge 8, 3) := by decide +kernel
theorem dX10_mean_161 : decode cX10_mean 161 = .ok (.iload 7, 2) := by decide +kernel
theorem dX10_mean_163 : decode cX10_mean 163 = .ok (.goto 5, 3) := by decide +kernel
theorem dX10_mean_166 : decode cX10_mean 166 = .ok (.iload 9, 2) := by decide +kernel
theorem dX10_mean_168 : decode cX10_mean 168 = .ok (.dup2, 1) := by decide +kernel
theorem dX10_mean_169 : decode cX10_mean 169 = .ok (.laload, 1) := by decide +kernel
theorem dX10_mean_170 : decode cX10_mean 170 = .ok (.aload_n 0, 1) := by decide +kernel
theorem dX10_mean_171 : decode cX10_mean 171 = .ok (.getfield 74, 3) := by decide +kernel
theorem dX10_mean_174 : decode cX10_mean 174 = .ok (.iload 7, 2) := by decide +kernel
theorem dX10_mean_176 : decode cX10_mean 176 = .ok (.laload, 1) := by decide +kernel
theorem dX10_mean_177 : decode cX10_mean 177 = .ok (.ladd, 1) := by decide +kernel
theorem dX10_mean_178 : decode cX10_mean 178 = .ok (.lastore, 1) := by decide +kernel
theorem dX10_mean_179 : decode cX10_mean 179 = .ok (.iinc 8 1, 3) := by decide +kernel
theorem dX10_mean_182 : decode cX10_mean 182 = .ok (.goto (-54), 3) := by decide +kernel
theorem dX10_mean_185 : decode cX10_mean 185 = .ok (.iinc 7 1, 3) := by decide +kernel
theorem dX10_mean_188 : decode cX10_mean 188 = .ok (.goto (-72), 3) := by decide +kernel
theorem dX10_mean_191 : decode cX10_mean 191 = .ok (.iconst 0, 1) := by decide +kernel
theorem dX10_mean_192 : decode cX10_mean 192 = .ok (.istore 7, 2) := by decide +kernel
theorem dX10_mean_194 : decode cX10_mean 194 = .ok (.iload 7, 2) := by decide +kernel
theorem dX10_mean_196 : decode cX10_mean 196 = .ok (.aload_n 0, 1) := by decide +kernel
theorem dX10_mean_197 : decode cX10_mean 197 = .ok (.getfield 158, 3) := by decide +kernel
theorem dX10_mean_200 : decode cX10_mean 200 = .ok (.if_icmp .ge 23, 3) := by decide +kernel
theorem dX10_mean_203 : decode cX10_mean 203 = .ok (.aload_n 0, 1) := by decide +kernel
theorem dX10_mean_204 : decode cX10_mean 204 = .ok (.getfield 74, 3) := by decide +kernel
theorem dX10_mean_207 : decode cX10_mean 207 = .ok (.iload 7, 2) := by decide +kernel
theorem dX10_mean_209 : decode cX10_mean 209 = .ok (.aload_n 0, 1) := by decide +kernel
theorem dX10_mean_210 : decode cX10_mean 210 = .ok (.getfield 78, 3) := by decide +kernel
theorem dX10_mean_213 : decode cX10_mean 213 = .ok (.iload 7, 2) := by decide +kernel
theorem dX10_mean_215 : decode cX10_mean 215 = .ok (.laload, 1) := by decide +kernel
theorem dX10_mean_216 : decode cX10_mean 216 = .ok (.lastore, 1) := by decide +kernel
theorem dX10_mean_217 : decode cX10_mean 217 = .ok (.iinc 7 1, 3) := by decide +kernel
theorem dX10_mean_220 : decode cX10_mean 220 = .ok (.goto (-26), 3) := by decide +kernel
theorem dX10_mean_223 : decode cX10_mean 223 = .ok (.lload 4, 2) := by decide +kernel
theorem dX10_mean_225 : decode cX10_mean 225 = .ok (.aload_n 0, 1) := by decide +kernel
theorem dX10_mean_226 : decode cX10_mean 226 = .ok (.invokevirtual 174, 3) := by decide +kernel
theorem dX10_mean_229 : decode cX10_mean 229 = .ok (.i2l, 1) := by decide +kernel
theorem dX10_mean_230 : decode cX10_mean 230 = .ok (.lmul, 1) := by decide +kernel
theorem dX10_mean_231 : decode cX10_mean 231 = .ok (.lstore 4, 2) := by decide +kernel
theorem dX10_mean_233 : decode cX10_mean 233 = .ok (.iinc 6 1, 3) := by decide +kernel
theorem dX10_mean_236 : decode cX10_mean 236 = .ok (.goto (-155), 3) := by decide +kernel
theorem dX10_mean_239 : decode cX10_mean 239 = .ok (.lconst 0, 1) := by decide +kernel
theorem dX10_mean_240 : decode cX10_mean 240 = .ok (.lstore 6, 2) := by decide +kernel
theorem dX10_mean_242 : decode cX10_mean 242 = .ok (.iconst 0, 1) := by decide +kernel
theorem dX10_mean_243 : decode cX10_mean 243 = .ok (.istore 8, 2) := by decide +kernel
theorem dX10_mean_245 : decode cX10_mean 245 = .ok (.iload 8, 2) := by decide +kernel
theorem dX10_mean_247 : decode cX10_mean 247 = .ok (.aload_n 0, 1) := by decide +kernel
theorem dX10_mean_248 : decode cX10_mean 248 = .ok (.getfield 158, 3) := by decide +kernel
theorem dX10_mean_251 : decode cX10_mean 251 = .ok (.if_icmp .ge 46, 3) := by decide +kernel
theorem dX10_mean_254 : decode cX10_mean 254 = .ok (.lload 6, 2) := by decide +kernel
theorem dX10_mean_256 : decode cX10_mean 256 = .ok (.aload_n 0, 1) := by decide +kernel
theorem dX10_mean_257 : decode cX10_mean 257 = .ok (.getfield 74, 3) := by decide +kernel
theorem dX10_mean_260 : decode cX10_mean 260 = .ok (.iload 8, 2) := by decide +kernel
theorem dX10_mean_262 : decode cX10_mean 262 = .ok (.laload, 1) := by decide +kernel
theorem dX10_mean_263 : decode cX10_mean 263 = .ok (.lconst 0, 1) := by decide +kernel
theorem dX10_mean_264 : decode cX10_mean 264 = .ok (.lcmp, 1) := by decide +kernel
theorem dX10_mean_265 : decode cX10_mean 265 = .ok (.ifCond .ne 7, 3) := by decide +kernel
theorem dX10_mean_268 : decode cX10_mean 268 = .ok (.lconst 0, 1) := by decide +kernel
theorem dX10_mean_269 : decode cX10_mean 269 = .ok (.goto 19, 3) := by decide +kernel
theorem dX10_mean_272 : decode cX10_mean 272 = .ok (.aload_n 0, 1) := by decide +kernel
theorem dX10_mean_273 : decode cX10_mean 273 = .ok (.getfield 74, 3) := by decide +kernel
theorem dX10_mean_276 : decode cX10_mean 276 = .ok (.iload 8, 2) := by decide +kernel
theorem dX10_mean_278 : decode cX10_mean 278 = .ok (.laload, 1) := by decide +kernel
theorem dX10_mean_279 : decode cX10_mean 279 = .ok (.aload_n 0, 1) := by decide +kernel
theorem dX10_mean_280 : decode cX10_mean 280 = .ok (.iload 8, 2) := by decide +kernel
theorem dX10_mean_282 : decode cX10_mean 282 = .ok (.iload_n 1, 1) := by decide +kernel
theorem dX10_mean_283 : decode cX10_mean 283 = .ok (.invokevirtual 171, 3) := by decide +kernel
theorem dX10_mean_286 : decode cX10_mean 286 = .ok (.i2l, 1) := by decide +kernel
theorem dX10_mean_287 : decode cX10_mean 287 = .ok (.lmul, 1) := by decide +kernel
theorem dX10_mean_288 : decode cX10_mean 288 = .ok (.ladd, 1) := by decide +kernel
theorem dX10_mean_289 : decode cX10_mean 289 = .ok (.lstore 6, 2) := by decide +kernel
theorem dX10_mean_291 : decode cX10_mean 291 = .ok (.iinc 8 1, 3) := by decide +kernel
theorem dX10_mean_294 : decode cX10_mean 294 = .ok (.goto (-49), 3) := by decide +kernel
theorem dX10_mean_297 : decode cX10_mean 297 = .ok (.lload 6, 2) := by decide +kernel
theorem dX10_mean_299 : decode cX10_mean 299 = .ok (.lconst 0, 1) := by decide +kernel
theorem dX10_mean_300 : decode cX10_mean 300 = .ok (.lcmp, 1) := by decide +kernel
theorem dX10_mean_301 : decode cX10_mean 301 = .ok (.ifCond .ge 9, 3) := by decide +kernel
theorem dX10_mean_304 : decode cX10_mean 304 = .ok (.lload 6, 2) := by decide +kernel
theorem dX10_mean_306 : decode cX10_mean 306 = .ok (.lneg, 1) := by decide +kernel
theorem dX10_mean_307 : decode cX10_mean 307 = .ok (.goto 5, 3) := by decide +kernel
theorem dX10_mean_310 : decode cX10_mean 310 = .ok (.lload 6, 2) := by decide +kernel
theorem dX10_mean_312 : decode cX10_mean 312 = .ok (.lstore 8, 2) := by decide +kernel
theorem dX10_mean_314 : decode cX10_mean 314 = .ok (.lload 4, 2) := by decide +kernel
theorem dX10_mean_316 : decode cX10_mean 316 = .ok (.lstore 10, 2) := by decide +kernel
theorem dX10_mean_318 : decode cX10_mean 318 = .ok (.lload 10, 2) := by decide +kernel
theorem dX10_mean_320 : decode cX10_mean 320 = .ok (.lconst 0, 1) := by decide +kernel
theorem dX10_mean_321 : decode cX10_mean 321 = .ok (.lcmp, 1) := by decide +kernel
theorem dX10_mean_322 : decode cX10_mean 322 = .ok (.ifCond .eq 21, 3) := by decide +kernel
theorem dX10_mean_325 : decode cX10_mean 325 = .ok (.lload 8, 2) := by decide +kernel
theorem dX10_mean_327 : decode cX10_mean 327 = .ok (.lload 10, 2) := by decide +kernel
theorem dX10_mean_329 : decode cX10_mean 329 = .ok (.lrem, 1) := by decide +kernel
theorem dX10_mean_330 : decode cX10_mean 330 = .ok (.lstore 12, 2) := by decide +kernel
theorem dX10_mean_332 : decode cX10_mean 332 = .ok (.lload 10, 2) := by decide +kernel
theorem dX10_mean_334 : decode cX10_mean 334 = .ok (.lstore 8, 2) := by decide +kernel
theorem dX10_mean_336 : decode cX10_mean 336 = .ok (.lload 12, 2) := by decide +kernel
theorem dX10_mean_338 : decode cX10_mean 338 = .ok (.lstore 10, 2) := by decide +kernel
theorem dX10_mean_340 : decode cX10_mean 340 = .ok (.goto (-22), 3) := by decide +kernel
theorem dX10_mean_343 : decode cX10_mean 343 = .ok (.iload_n 3, 1) := by decide +kernel
theorem dX10_mean_344 : decode cX10_mean 344 = .ok (.ifCond .ne 16, 3) := by decide +kernel
theorem dX10_mean_347 : decode cX10_mean 347 = .ok (.ldc2_w 234, 3) := by decide +kernel
theorem dX10_mean_350 : decode cX10_mean 350 = .ok (.lload 6, 2) := by decide +kernel
theorem dX10_mean_352 : decode cX10_mean 352 = .ok (.lload 8, 2) := by decide +kernel
theorem dX10_mean_354 : decode cX10_mean 354 = .ok (.ldiv, 1) := by decide +kernel
theorem dX10_mean_355 : decode cX10_mean 355 = .ok (.ladd, 1) := by decide +kernel
theorem dX10_mean_356 : decode cX10_mean 356 = .ok (.l2i, 1) := by decide +kernel
theorem dX10_mean_357 : decode cX10_mean 357 = .ok (.goto 9, 3) := by decide +kernel
theorem dX10_mean_360 : decode cX10_mean 360 = .ok (.lload 4, 2) := by decide +kernel
theorem dX10_mean_362 : decode cX10_mean 362 = .ok (.lload 8, 2) := by decide +kernel
theorem dX10_mean_364 : decode cX10_mean 364 = .ok (.ldiv, 1) := by decide +kernel
theorem dX10_mean_365 : decode cX10_mean 365 = .ok (.l2i, 1) := by decide +kernel
theorem dX10_mean_366 : decode cX10_mean 366 = .ok (.ireturn, 1) := by decide +kernel
theorem dX10_copy_0 : decode cX10_copy 0 = .ok (.iconst 0, 1) := by decide +kernel
theorem dX10_copy_1 : decode cX10_copy 1 = .ok (.istore_n 3, 1) := by decide +kernel
theorem dX10_copy_2 : decode cX10_copy 2 = .ok (.iload_n 3, 1) := by decide +kernel
theorem dX10_copy_3 : decode cX10_copy 3 = .ok (.bipush 6, 2) := by decide +kernel
theorem dX10_copy_5 : decode cX10_copy 5 = .ok (.if_icmp .ge 31, 3) := by decide +kernel
theorem dX10_copy_8 : decode cX10_copy 8 = .ok (.aload_n 0, 1) := by decide +kernel
theorem dX10_copy_9 : decode cX10_copy 9 = .ok (.getfield 31, 3) := by decide +kernel
theorem dX10_copy_12 : decode cX10_copy 12 = .ok (.bipush 6, 2) := by decide +kernel
theorem dX10_copy_14 : decode cX10_copy 14 = .ok (.iload_n 2, 1) := by decide +kernel
theorem dX10_copy_15 : decode cX10_copy 15 = .ok (.imul, 1) := by decide +kernel
theorem dX10_copy_16 : decode cX10_copy 16 = .ok (.iload_n 3, 1) := by decide +kernel
theorem dX10_copy_17 : decode cX10_copy 17 = .ok (.iadd, 1) := by decide +kernel
theorem dX10_copy_18 : decode cX10_copy 18 = .ok (.aload_n 0, 1) := by decide +kernel
theorem dX10_copy_19 : decode cX10_copy 19 = .ok (.getfield 31, 3) := by decide +kernel
theorem dX10_copy_22 : decode cX10_copy 22 = .ok (.bipush 6, 2) := by decide +kernel
theorem dX10_copy_24 : decode cX10_copy 24 = .ok (.iload_n 1, 1) := by decide +kernel
theorem dX10_copy_25 : decode cX10_copy 25 = .ok (.imul, 1) := by decide +kernel
theorem dX10_copy_26 : decode cX10_copy 26 = .ok (.iload_n 3, 1) := by decide +kernel
theorem dX10_copy_27 : decode cX10_copy 27 = .ok (.iadd, 1) := by decide +kernel
theorem dX10_copy_28 : decode cX10_copy 28 = .ok (.iaload, 1) := by decide +kernel
theorem dX10_copy_29 : decode cX10_copy 29 = .ok (.iastore, 1) := by decide +kernel
theorem dX10_copy_30 : decode cX10_copy 30 = .ok (.iinc 3 1, 3) := by decide +kernel
theorem dX10_copy_33 : decode cX10_copy 33 = .ok (.goto (-31), 3) := by decide +kernel
theorem dX10_copy_36 : decode cX10_copy 36 = .ok (.return_, 1) := by decide +kernel
theorem dX10_keep_0 : decode cX10_keep 0 = .ok (.aload_n 0, 1) := by decide +kernel
theorem dX10_keep_1 : decode cX10_keep 1 = .ok (.getfield 128, 3) := by decide +kernel
theorem dX10_keep_4 : decode cX10_keep 4 = .ok (.iconst 2, 1) := by decide +kernel
theorem dX10_keep_5 : decode cX10_keep 5 = .ok (.if_icmp .ne 6, 3) := by decide +kernel
theorem dX10_keep_8 : decode cX10_keep 8 = .ok (.bipush (-3), 2) := by decide +kernel
theorem dX10_keep_10 : decode cX10_keep 10 = .ok (.ireturn, 1) := by decide +kernel
theorem dX10_keep_11 : decode cX10_keep 11 = .ok (.aload_n 0, 1) := by decide +kernel
theorem dX10_keep_12 : decode cX10_keep 12 = .ok (.dup, 1) := by decide +kernel
theorem dX10_keep_13 : decode cX10_keep 13 = .ok (.getfield 128, 3) := by decide +kernel
theorem dX10_keep_16 : decode cX10_keep 16 = .ok (.iconst 1, 1) := by decide +kernel
theorem dX10_keep_17 : decode cX10_keep 17 = .ok (.iadd, 1) := by decide +kernel
theorem dX10_keep_18 : decode cX10_keep 18 = .ok (.putfield 128, 3) := by decide +kernel
theorem dX10_keep_21 : decode cX10_keep 21 = .ok (.aload_n 0, 1) := by decide +kernel
theorem dX10_keep_22 : decode cX10_keep 22 = .ok (.iconst 0, 1) := by decide +kernel
theorem dX10_keep_23 : decode cX10_keep 23 = .ok (.aload_n 0, 1) := by decide +kernel
theorem dX10_keep_24 : decode cX10_keep 24 = .ok (.getfield 128, 3) := by decide +kernel
theorem dX10_keep_27 : decode cX10_keep 27 = .ok (.invokevirtual 236, 3) := by decide +kernel
theorem dX10_keep_30 : decode cX10_keep 30 = .ok (.aload_n 0, 1) := by decide +kernel
theorem dX10_keep_31 : decode cX10_keep 31 = .ok (.getfield 128, 3) := by decide +kernel
theorem dX10_keep_34 : decode cX10_keep 34 = .ok (.ireturn, 1) := by decide +kernel
theorem dX10_back_0 : decode cX10_back 0 = .ok (.aload_n 0, 1) := by decide +kernel
theorem dX10_back_1 : decode cX10_back 1 = .ok (.getfield 128, 3) := by decide +kernel
theorem dX10_back_4 : decode cX10_back 4 = .ok (.ifCond .ne 6, 3) := by decide +kernel
theorem dX10_back_7 : decode cX10_back 7 = .ok (.bipush (-2), 2) := by decide +kernel
theorem dX10_back_9 : decode cX10_back 9 = .ok (.ireturn, 1) := by decide +kernel
theorem dX10_back_10 : decode cX10_back 10 = .ok (.aload_n 0, 1) := by decide +kernel
theorem dX10_back_11 : decode cX10_back 11 = .ok (.aload_n 0, 1) := by decide +kernel
theorem dX10_back_12 : decode cX10_back 12 = .ok (.getfield 128, 3) := by decide +kernel
theorem dX10_back_15 : decode cX10_back 15 = .ok (.iconst 0, 1) := by decide +kernel
theorem dX10_back_16 : decode cX10_back 16 = .ok (.invokevirtual 236, 3) := by decide +kernel
theorem dX10_back_19 : decode cX10_back 19 = .ok (.aload_n 0, 1) := by decide +kernel
theorem dX10_back_20 : decode cX10_back 20 = .ok (.dup, 1) := by decide +kernel
theorem dX10_back_21 : decode cX10_back 21 = .ok (.getfield 128, 3) := by decide +kernel
theorem dX10_back_24 : decode cX10_back 24 = .ok (.iconst 1, 1) := by decide +kernel
theorem dX10_back_25 : decode cX10_back 25 = .ok (.isub, 1) := by decide +kernel
theorem dX10_back_26 : decode cX10_back 26 = .ok (.putfield 128, 3) := by decide +kernel
theorem dX10_back_29 : decode cX10_back 29 = .ok (.aload_n 0, 1) := by decide +kernel
theorem dX10_back_30 : decode cX10_back 30 = .ok (.iconst 0, 1) := by decide +kernel
theorem dX10_back_31 : decode cX10_back 31 = .ok (.putfield 131, 3) := by decide +kernel
theorem dX10_back_34 : decode cX10_back 34 = .ok (.aload_n 0, 1) := by decide +kernel
theorem dX10_back_35 : decode cX10_back 35 = .ok (.getfield 128, 3) := by decide +kernel
theorem dX10_back_38 : decode cX10_back 38 = .ok (.ireturn, 1) := by decide +kernel
theorem dX10_suitMany_0 : decode cX10_suitMany 0 = .ok (.iconst 0, 1) := by decide +kernel
theorem dX10_suitMany_1 : decode cX10_suitMany 1 = .ok (.istore_n 1, 1) := by decide +kernel
theorem dX10_suitMany_2 : decode cX10_suitMany 2 = .ok (.iconst 0, 1) := by decide +kernel
theorem dX10_suitMany_3 : decode cX10_suitMany 3 = .ok (.istore_n 2, 1) := by decide +kernel
theorem dX10_suitMany_4 : decode cX10_suitMany 4 = .ok (.iload_n 2, 1) := by decide +kernel
theorem dX10_suitMany_5 : decode cX10_suitMany 5 = .ok (.aload_n 0, 1) := by decide +kernel
theorem dX10_suitMany_6 : decode cX10_suitMany 6 = .ok (.invokevirtual 174, 3) := by decide +kernel
theorem dX10_suitMany_9 : decode cX10_suitMany 9 = .ok (.if_icmp .ge 30, 3) := by decide +kernel
theorem dX10_suitMany_12 : decode cX10_suitMany 12 = .ok (.iload_n 1, 1) := by decide +kernel
theorem dX10_suitMany_13 : decode cX10_suitMany 13 = .ok (.aload_n 0, 1) := by decide +kernel
theorem dX10_suitMany_14 : decode cX10_suitMany 14 = .ok (.aload_n 0, 1) := by decide +kernel
theorem dX10_suitMany_15 : decode cX10_suitMany 15 = .ok (.invokevirtual 151, 3) := by decide +kernel
theorem dX10_suitMany_18 : decode cX10_suitMany 18 = .ok (.iload_n 2, 1) := by decide +kernel
theorem dX10_suitMany_19 : decode cX10_suitMany 19 = .ok (.iconst 0, 1) := by decide +kernel
theorem dX10_suitMany_20 : decode cX10_suitMany 20 = .ok (.invokevirtual 191, 3) := by decide +kernel
theorem dX10_suitMany_23 : decode cX10_suitMany 23 = .ok (.ifCond .eq 7, 3) := by decide +kernel
theorem dX10_suitMany_26 : decode cX10_suitMany 26 = .ok (.iconst 1, 1) := by decide +kernel
theorem dX10_suitMany_27 : decode cX10_suitMany 27 = .ok (.goto 4, 3) := by decide +kernel
theorem dX10_suitMany_30 : decode cX10_suitMany 30 = .ok (.iconst 0, 1) := by decide +kernel
theorem dX10_suitMany_31 : decode cX10_suitMany 31 = .ok (.iadd, 1) := by decide +kernel
theorem dX10_suitMany_32 : decode cX10_suitMany 32 = .ok (.istore_n 1, 1) := by decide +kernel
theorem dX10_suitMany_33 : decode cX10_suitMany 33 = .ok (.iinc 2 1, 3) := by decide +kernel
theorem dX10_suitMany_36 : decode cX10_suitMany 36 = .ok (.goto (-32), 3) := by decide +kernel
theorem dX10_suitMany_39 : decode cX10_suitMany 39 = .ok (.iload_n 1, 1) := by decide +kernel
theorem dX10_suitMany_40 : decode cX10_suitMany 40 = .ok (.ireturn, 1) := by decide +kernel
theorem dX10_count_0 : decode cX10_count 0 = .ok (.iload_n 1, 1) := by decide +kernel
theorem dX10_count_1 : decode cX10_count 1 = .ok (.tableswitch 89 0 7 #[47, 54, 59, 64, 69, 74, 79, 84], 47) := by decide +kernel
theorem dX10_count_48 : decode cX10_count 48 = .ok (.aload_n 0, 1) := by decide +kernel
theorem dX10_count_49 : decode cX10_count 49 = .ok (.getfield 13, 3) := by decide +kernel
theorem dX10_count_52 : decode cX10_count 52 = .ok (.iconst 0, 1) := by decide +kernel
theorem dX10_count_53 : decode cX10_count 53 = .ok (.iaload, 1) := by decide +kernel
theorem dX10_count_54 : decode cX10_count 54 = .ok (.ireturn, 1) := by decide +kernel
theorem dX10_count_55 : decode cX10_count 55 = .ok (.aload_n 0, 1) := by decide +kernel
theorem dX10_count_56 : decode cX10_count 56 = .ok (.invokevirtual 174, 3) := by decide +kernel
theorem dX10_count_59 : decode cX10_count 59 = .ok (.ireturn, 1) := by decide +kernel
theorem dX10_count_60 : decode cX10_count 60 = .ok (.aload_n 0, 1) := by decide +kernel
theorem dX10_count_61 : decode cX10_count 61 = .ok (.invokevirtual 240, 3) := by decide +kernel
theorem dX10_count_64 : decode cX10_count 64 = .ok (.ireturn, 1) := by decide +kernel
theorem dX10_count_65 : decode cX10_count 65 = .ok (.aload_n 0, 1) := by decide +kernel
theorem dX10_count_66 : decode cX10_count 66 = .ok (.getfield 134, 3) := by decide +kernel
theorem dX10_count_69 : decode cX10_count 69 = .ok (.ireturn, 1) := by decide +kernel
theorem dX10_count_70 : decode cX10_count 70 = .ok (.aload_n 0, 1) := by decide +kernel
theorem dX10_count_71 : decode cX10_count 71 = .ok (.getfield 137, 3) := by decide +kernel
theorem dX10_count_74 : decode cX10_count 74 = .ok (.ireturn, 1) := by decide +kernel
theorem dX10_count_75 : decode cX10_count 75 = .ok (.aload_n 0, 1) := by decide +kernel
theorem dX10_count_76 : decode cX10_count 76 = .ok (.getfield 131, 3) := by decide +kernel
theorem dX10_count_79 : decode cX10_count 79 = .ok (.ireturn, 1) := by decide +kernel
theorem dX10_count_80 : decode cX10_count 80 = .ok (.aload_n 0, 1) := by decide +kernel
theorem dX10_count_81 : decode cX10_count 81 = .ok (.getfield 128, 3) := by decide +kernel
theorem dX10_count_84 : decode cX10_count 84 = .ok (.ireturn, 1) := by decide +kernel
theorem dX10_count_85 : decode cX10_count 85 = .ok (.aload_n 0, 1) := by decide +kernel
theorem dX10_count_86 : decode cX10_count 86 = .ok (.getfield 94, 3) := by decide +kernel
theorem dX10_count_89 : decode cX10_count 89 = .ok (.ireturn, 1) := by decide +kernel
theorem dX10_count_90 : decode cX10_count 90 = .ok (.iconst (-1), 1) := by decide +kernel
theorem dX10_count_91 : decode cX10_count 91 = .ok (.ireturn, 1) := by decide +kernel
