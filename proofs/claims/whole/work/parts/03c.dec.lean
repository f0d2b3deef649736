theorem dX9_init_0 : decode cX9_init 0 = .ok (.aload_n 0, 1) := by decide +kernel
theorem dX9_init_1 : decode cX9_init 1 = .ok (.invokespecial 1, 3) := by decide +kernel
theorem dX9_init_4 : decode cX9_init 4 = .ok (.aload_n 0, 1) := by decide +kernel
theorem dX9_init_5 : decode cX9_init 5 = .ok (.new 7, 3) := by decide +kernel
theorem dX9_init_8 : decode cX9_init 8 = .ok (.dup, 1) := by decide +kernel
theorem dX9_init_9 : decode cX9_init 9 = .ok (.invokespecial 9, 3) := by decide +kernel
theorem dX9_init_12 : decode cX9_init 12 = .ok (.putfield 10, 3) := by decide +kernel
theorem dX9_init_15 : decode cX9_init 15 = .ok (.aload_n 0, 1) := by decide +kernel
theorem dX9_init_16 : decode cX9_init 16 = .ok (.new 16, 3) := by decide +kernel
theorem dX9_init_19 : decode cX9_init 19 = .ok (.dup, 1) := by decide +kernel
theorem dX9_init_20 : decode cX9_init 20 = .ok (.invokespecial 18, 3) := by decide +kernel
theorem dX9_init_23 : decode cX9_init 23 = .ok (.putfield 19, 3) := by decide +kernel
theorem dX9_init_26 : decode cX9_init 26 = .ok (.aload_n 0, 1) := by decide +kernel
theorem dX9_init_27 : decode cX9_init 27 = .ok (.new 16, 3) := by decide +kernel
theorem dX9_init_30 : decode cX9_init 30 = .ok (.dup, 1) := by decide +kernel
theorem dX9_init_31 : decode cX9_init 31 = .ok (.invokespecial 18, 3) := by decide +kernel
theorem dX9_init_34 : decode cX9_init 34 = .ok (.putfield 23, 3) := by decide +kernel
theorem dX9_init_37 : decode cX9_init 37 = .ok (.aload_n 0, 1) := by decide +kernel
theorem dX9_init_38 : decode cX9_init 38 = .ok (.new 26, 3) := by decide +kernel
theorem dX9_init_41 : decode cX9_init 41 = .ok (.dup, 1) := by decide +kernel
theorem dX9_init_42 : decode cX9_init 42 = .ok (.bipush 12, 2) := by decide +kernel
theorem dX9_init_44 : decode cX9_init 44 = .ok (.invokespecial 28, 3) := by decide +kernel
theorem dX9_init_47 : decode cX9_init 47 = .ok (.putfield 31, 3) := by decide +kernel
theorem dX9_init_50 : decode cX9_init 50 = .ok (.aload_n 0, 1) := by decide +kernel
theorem dX9_init_51 : decode cX9_init 51 = .ok (.new 26, 3) := by decide +kernel
theorem dX9_init_54 : decode cX9_init 54 = .ok (.dup, 1) := by decide +kernel
theorem dX9_init_55 : decode cX9_init 55 = .ok (.bipush 8, 2) := by decide +kernel
theorem dX9_init_57 : decode cX9_init 57 = .ok (.invokespecial 28, 3) := by decide +kernel
theorem dX9_init_60 : decode cX9_init 60 = .ok (.putfield 35, 3) := by decide +kernel
theorem dX9_init_63 : decode cX9_init 63 = .ok (.aload_n 0, 1) := by decide +kernel
theorem dX9_init_64 : decode cX9_init 64 = .ok (.new 26, 3) := by decide +kernel
theorem dX9_init_67 : decode cX9_init 67 = .ok (.dup, 1) := by decide +kernel
theorem dX9_init_68 : decode cX9_init 68 = .ok (.iconst 2, 1) := by decide +kernel
theorem dX9_init_69 : decode cX9_init 69 = .ok (.invokespecial 28, 3) := by decide +kernel
theorem dX9_init_72 : decode cX9_init 72 = .ok (.putfield 38, 3) := by decide +kernel
theorem dX9_init_75 : decode cX9_init 75 = .ok (.aload_n 0, 1) := by decide +kernel
theorem dX9_init_76 : decode cX9_init 76 = .ok (.new 41, 3) := by decide +kernel
theorem dX9_init_79 : decode cX9_init 79 = .ok (.dup, 1) := by decide +kernel
theorem dX9_init_80 : decode cX9_init 80 = .ok (.invokespecial 43, 3) := by decide +kernel
theorem dX9_init_83 : decode cX9_init 83 = .ok (.putfield 44, 3) := by decide +kernel
theorem dX9_init_86 : decode cX9_init 86 = .ok (.aload_n 0, 1) := by decide +kernel
theorem dX9_init_87 : decode cX9_init 87 = .ok (.new 48, 3) := by decide +kernel
theorem dX9_init_90 : decode cX9_init 90 = .ok (.dup, 1) := by decide +kernel
theorem dX9_init_91 : decode cX9_init 91 = .ok (.invokespecial 50, 3) := by decide +kernel
theorem dX9_init_94 : decode cX9_init 94 = .ok (.putfield 51, 3) := by decide +kernel
theorem dX9_init_97 : decode cX9_init 97 = .ok (.aload_n 0, 1) := by decide +kernel
theorem dX9_init_98 : decode cX9_init 98 = .ok (.iconst 0, 1) := by decide +kernel
theorem dX9_init_99 : decode cX9_init 99 = .ok (.putfield 55, 3) := by decide +kernel
theorem dX9_init_102 : decode cX9_init 102 = .ok (.aload_n 0, 1) := by decide +kernel
theorem dX9_init_103 : decode cX9_init 103 = .ok (.new 59, 3) := by decide +kernel
theorem dX9_init_106 : decode cX9_init 106 = .ok (.dup, 1) := by decide +kernel
theorem dX9_init_107 : decode cX9_init 107 = .ok (.invokespecial 61, 3) := by decide +kernel
theorem dX9_init_110 : decode cX9_init 110 = .ok (.putfield 62, 3) := by decide +kernel
theorem dX9_init_113 : decode cX9_init 113 = .ok (.aload_n 0, 1) := by decide +kernel
theorem dX9_init_114 : decode cX9_init 114 = .ok (.new 66, 3) := by decide +kernel
theorem dX9_init_117 : decode cX9_init 117 = .ok (.dup, 1) := by decide +kernel
theorem dX9_init_118 : decode cX9_init 118 = .ok (.invokespecial 68, 3) := by decide +kernel
theorem dX9_init_121 : decode cX9_init 121 = .ok (.putfield 69, 3) := by decide +kernel
theorem dX9_init_124 : decode cX9_init 124 = .ok (.aload_n 0, 1) := by decide +kernel
theorem dX9_init_125 : decode cX9_init 125 = .ok (.new 73, 3) := by decide +kernel
theorem dX9_init_128 : decode cX9_init 128 = .ok (.dup, 1) := by decide +kernel
theorem dX9_init_129 : decode cX9_init 129 = .ok (.invokespecial 75, 3) := by decide +kernel
theorem dX9_init_132 : decode cX9_init 132 = .ok (.putfield 76, 3) := by decide +kernel
theorem dX9_init_135 : decode cX9_init 135 = .ok (.aload_n 0, 1) := by decide +kernel
theorem dX9_init_136 : decode cX9_init 136 = .ok (.getfield 19, 3) := by decide +kernel
theorem dX9_init_139 : decode cX9_init 139 = .ok (.iconst 1, 1) := by decide +kernel
theorem dX9_init_140 : decode cX9_init 140 = .ok (.iconst 5, 1) := by decide +kernel
theorem dX9_init_141 : decode cX9_init 141 = .ok (.iconst 0, 1) := by decide +kernel
theorem dX9_init_142 : decode cX9_init 142 = .ok (.invokevirtual 80, 3) := by decide +kernel
theorem dX9_init_145 : decode cX9_init 145 = .ok (.pop, 1) := by decide +kernel
theorem dX9_init_146 : decode cX9_init 146 = .ok (.aload_n 0, 1) := by decide +kernel
theorem dX9_init_147 : decode cX9_init 147 = .ok (.getfield 19, 3) := by decide +kernel
theorem dX9_init_150 : decode cX9_init 150 = .ok (.iconst 0, 1) := by decide +kernel
theorem dX9_init_151 : decode cX9_init 151 = .ok (.iconst 5, 1) := by decide +kernel
theorem dX9_init_152 : decode cX9_init 152 = .ok (.iconst 0, 1) := by decide +kernel
theorem dX9_init_153 : decode cX9_init 153 = .ok (.invokevirtual 80, 3) := by decide +kernel
theorem dX9_init_156 : decode cX9_init 156 = .ok (.pop, 1) := by decide +kernel
theorem dX9_init_157 : decode cX9_init 157 = .ok (.aload_n 0, 1) := by decide +kernel
theorem dX9_init_158 : decode cX9_init 158 = .ok (.aload_n 0, 1) := by decide +kernel
theorem dX9_init_159 : decode cX9_init 159 = .ok (.getfield 19, 3) := by decide +kernel
theorem dX9_init_162 : decode cX9_init 162 = .ok (.getfield 84, 3) := by decide +kernel
theorem dX9_init_165 : decode cX9_init 165 = .ok (.invokestatic 88, 3) := by decide +kernel
theorem dX9_init_168 : decode cX9_init 168 = .ok (.putfield 94, 3) := by decide +kernel
theorem dX9_init_171 : decode cX9_init 171 = .ok (.return_, 1) := by decide +kernel
theorem dX9_write_0 : decode cX9_write 0 = .ok (.iload_n 1, 1) := by decide +kernel
theorem dX9_write_1 : decode cX9_write 1 = .ok (.iconst 1, 1) := by decide +kernel
theorem dX9_write_2 : decode cX9_write 2 = .ok (.if_icmp .lt 9, 3) := by decide +kernel
theorem dX9_write_5 : decode cX9_write 5 = .ok (.iload_n 1, 1) := by decide +kernel
theorem dX9_write_6 : decode cX9_write 6 = .ok (.bipush 8, 2) := by decide +kernel
theorem dX9_write_8 : decode cX9_write 8 = .ok (.if_icmp .le 5, 3) := by decide +kernel
theorem dX9_write_11 : decode cX9_write 11 = .ok (.iconst (-1), 1) := by decide +kernel
theorem dX9_write_12 : decode cX9_write 12 = .ok (.ireturn, 1) := by decide +kernel
theorem dX9_write_13 : decode cX9_write 13 = .ok (.aload_n 0, 1) := by decide +kernel
theorem dX9_write_14 : decode cX9_write 14 = .ok (.getfield 10, 3) := by decide +kernel
theorem dX9_write_17 : decode cX9_write 17 = .ok (.iload_n 1, 1) := by decide +kernel
theorem dX9_write_18 : decode cX9_write 18 = .ok (.lload_n 2, 1) := by decide +kernel
theorem dX9_write_19 : decode cX9_write 19 = .ok (.invokevirtual 97, 3) := by decide +kernel
theorem dX9_write_22 : decode cX9_write 22 = .ok (.ifCond .eq 13, 3) := by decide +kernel
theorem dX9_write_25 : decode cX9_write 25 = .ok (.aload_n 0, 1) := by decide +kernel
theorem dX9_write_26 : decode cX9_write 26 = .ok (.getfield 10, 3) := by decide +kernel
theorem dX9_write_29 : decode cX9_write 29 = .ok (.getfield 101, 3) := by decide +kernel
theorem dX9_write_32 : decode cX9_write 32 = .ok (.goto 5, 3) := by decide +kernel
theorem dX9_write_35 : decode cX9_write 35 = .ok (.bipush (-3), 2) := by decide +kernel
theorem dX9_write_37 : decode cX9_write 37 = .ok (.ireturn, 1) := by decide +kernel
theorem dX9_wipe_0 : decode cX9_wipe 0 = .ok (.aload_n 0, 1) := by decide +kernel
theorem dX9_wipe_1 : decode cX9_wipe 1 = .ok (.getfield 10, 3) := by decide +kernel
theorem dX9_wipe_4 : decode cX9_wipe 4 = .ok (.getfield 101, 3) := by decide +kernel
theorem dX9_wipe_7 : decode cX9_wipe 7 = .ok (.istore_n 1, 1) := by decide +kernel
theorem dX9_wipe_8 : decode cX9_wipe 8 = .ok (.aload_n 0, 1) := by decide +kernel
theorem dX9_wipe_9 : decode cX9_wipe 9 = .ok (.getfield 10, 3) := by decide +kernel
theorem dX9_wipe_12 : decode cX9_wipe 12 = .ok (.iconst 0, 1) := by decide +kernel
theorem dX9_wipe_13 : decode cX9_wipe 13 = .ok (.putfield 101, 3) := by decide +kernel
theorem dX9_wipe_16 : decode cX9_wipe 16 = .ok (.iload_n 1, 1) := by decide +kernel
theorem dX9_wipe_17 : decode cX9_wipe 17 = .ok (.ireturn, 1) := by decide +kernel
theorem dX9_fault_0 : decode cX9_fault 0 = .ok (.aload_n 0, 1) := by decide +kernel
theorem dX9_fault_1 : decode cX9_fault 1 = .ok (.getfield 10, 3) := by decide +kernel
theorem dX9_fault_4 : decode cX9_fault 4 = .ok (.aload_n 0, 1) := by decide +kernel
theorem dX9_fault_5 : decode cX9_fault 5 = .ok (.getfield 23, 3) := by decide +kernel
theorem dX9_fault_8 : decode cX9_fault 8 = .ok (.invokevirtual 104, 3) := by decide +kernel
theorem dX9_fault_11 : decode cX9_fault 11 = .ok (.istore_n 1, 1) := by decide +kernel
theorem dX9_fault_12 : decode cX9_fault 12 = .ok (.iload_n 1, 1) := by decide +kernel
theorem dX9_fault_13 : decode cX9_fault 13 = .ok (.ifCond .ge 8, 3) := by decide +kernel
theorem dX9_fault_16 : decode cX9_fault 16 = .ok (.bipush (-4), 2) := by decide +kernel
theorem dX9_fault_18 : decode cX9_fault 18 = .ok (.goto 4, 3) := by decide +kernel
theorem dX9_fault_21 : decode cX9_fault 21 = .ok (.iload_n 1, 1) := by decide +kernel
theorem dX9_fault_22 : decode cX9_fault 22 = .ok (.ireturn, 1) := by decide +kernel
theorem dX9_lay_0 : decode cX9_lay 0 = .ok (.aload_n 0, 1) := by decide +kernel
theorem dX9_lay_1 : decode cX9_lay 1 = .ok (.getfield 10, 3) := by decide +kernel
theorem dX9_lay_4 : decode cX9_lay 4 = .ok (.aload_n 0, 1) := by decide +kernel
theorem dX9_lay_5 : decode cX9_lay 5 = .ok (.getfield 23, 3) := by decide +kernel
theorem dX9_lay_8 : decode cX9_lay 8 = .ok (.invokevirtual 104, 3) := by decide +kernel
theorem dX9_lay_11 : decode cX9_lay 11 = .ok (.ifCond .ge 13, 3) := by decide +kernel
theorem dX9_lay_14 : decode cX9_lay 14 = .ok (.aload_n 0, 1) := by decide +kernel
theorem dX9_lay_15 : decode cX9_lay 15 = .ok (.getfield 23, 3) := by decide +kernel
theorem dX9_lay_18 : decode cX9_lay 18 = .ok (.invokevirtual 108, 3) := by decide +kernel
theorem dX9_lay_21 : decode cX9_lay 21 = .ok (.ifCond .ne 6, 3) := by decide +kernel
theorem dX9_lay_24 : decode cX9_lay 24 = .ok (.bipush (-2), 2) := by decide +kernel
theorem dX9_lay_26 : decode cX9_lay 26 = .ok (.ireturn, 1) := by decide +kernel
theorem dX9_lay_27 : decode cX9_lay 27 = .ok (.aload_n 0, 1) := by decide +kernel
theorem dX9_lay_28 : decode cX9_lay 28 = .ok (.getfield 19, 3) := by decide +kernel
theorem dX9_lay_31 : decode cX9_lay 31 = .ok (.astore_n 1, 1) := by decide +kernel
theorem dX9_lay_32 : decode cX9_lay 32 = .ok (.aload_n 0, 1) := by decide +kernel
theorem dX9_lay_33 : decode cX9_lay 33 = .ok (.aload_n 0, 1) := by decide +kernel
theorem dX9_lay_34 : decode cX9_lay 34 = .ok (.getfield 23, 3) := by decide +kernel
theorem dX9_lay_37 : decode cX9_lay 37 = .ok (.putfield 19, 3) := by decide +kernel
theorem dX9_lay_40 : decode cX9_lay 40 = .ok (.aload_n 0, 1) := by decide +kernel
theorem dX9_lay_41 : decode cX9_lay 41 = .ok (.aload_n 1, 1) := by decide +kernel
theorem dX9_lay_42 : decode cX9_lay 42 = .ok (.putfield 23, 3) := by decide +kernel
theorem dX9_lay_45 : decode cX9_lay 45 = .ok (.aload_n 0, 1) := by decide +kernel
theorem dX9_lay_46 : decode cX9_lay 46 = .ok (.aload_n 0, 1) := by decide +kernel
theorem dX9_lay_47 : decode cX9_lay 47 = .ok (.getfield 19, 3) := by decide +kernel
theorem dX9_lay_50 : decode cX9_lay 50 = .ok (.getfield 84, 3) := by decide +kernel
theorem dX9_lay_53 : decode cX9_lay 53 = .ok (.invokestatic 88, 3) := by decide +kernel
theorem dX9_lay_56 : decode cX9_lay 56 = .ok (.putfield 94, 3) := by decide +kernel
theorem dX9_lay_59 : decode cX9_lay 59 = .ok (.aload_n 0, 1) := by decide +kernel
theorem dX9_lay_60 : decode cX9_lay 60 = .ok (.getfield 31, 3) := by decide +kernel
theorem dX9_lay_63 : decode cX9_lay 63 = .ok (.iconst 0, 1) := by decide +kernel
theorem dX9_lay_64 : decode cX9_lay 64 = .ok (.putfield 112, 3) := by decide +kernel
theorem dX9_lay_67 : decode cX9_lay 67 = .ok (.aload_n 0, 1) := by decide +kernel
theorem dX9_lay_68 : decode cX9_lay 68 = .ok (.getfield 35, 3) := by decide +kernel
theorem dX9_lay_71 : decode cX9_lay 71 = .ok (.iconst 0, 1) := by decide +kernel
theorem dX9_lay_72 : decode cX9_lay 72 = .ok (.putfield 112, 3) := by decide +kernel
theorem dX9_lay_75 : decode cX9_lay 75 = .ok (.aload_n 0, 1) := by decide +kernel
theorem dX9_lay_76 : decode cX9_lay 76 = .ok (.getfield 38, 3) := by decide +kernel
theorem dX9_lay_79 : decode cX9_lay 79 = .ok (.iconst 0, 1) := by decide +kernel
theorem dX9_lay_80 : decode cX9_lay 80 = .ok (.putfield 112, 3) := by decide +kernel
theorem dX9_lay_83 : decode cX9_lay 83 = .ok (.aload_n 0, 1) := by decide +kernel
theorem dX9_lay_84 : decode cX9_lay 84 = .ok (.getfield 44, 3) := by decide +kernel
theorem dX9_lay_87 : decode cX9_lay 87 = .ok (.iconst 0, 1) := by decide +kernel
theorem dX9_lay_88 : decode cX9_lay 88 = .ok (.putfield 115, 3) := by decide +kernel
theorem dX9_lay_91 : decode cX9_lay 91 = .ok (.aload_n 0, 1) := by decide +kernel
theorem dX9_lay_92 : decode cX9_lay 92 = .ok (.iconst 0, 1) := by decide +kernel
theorem dX9_lay_93 : decode cX9_lay 93 = .ok (.putfield 55, 3) := by decide +kernel
theorem dX9_lay_96 : decode cX9_lay 96 = .ok (.aload_n 0, 1) := by decide +kernel
theorem dX9_lay_97 : decode cX9_lay 97 = .ok (.getfield 19, 3) := by decide +kernel
theorem dX9_lay_100 : decode cX9_lay 100 = .ok (.getfield 84, 3) := by decide +kernel
theorem dX9_lay_103 : decode cX9_lay 103 = .ok (.ireturn, 1) := by decide +kernel
theorem dX9_person_0 : decode cX9_person 0 = .ok (.aload_n 0, 1) := by decide +kernel
theorem dX9_person_1 : decode cX9_person 1 = .ok (.getfield 19, 3) := by decide +kernel
theorem dX9_person_4 : decode cX9_person 4 = .ok (.iload_n 1, 1) := by decide +kernel
theorem dX9_person_5 : decode cX9_person 5 = .ok (.invokevirtual 116, 3) := by decide +kernel
theorem dX9_person_8 : decode cX9_person 8 = .ok (.ifCond .ne 5, 3) := by decide +kernel
theorem dX9_person_11 : decode cX9_person 11 = .ok (.iconst (-1), 1) := by decide +kernel
theorem dX9_person_12 : decode cX9_person 12 = .ok (.ireturn, 1) := by decide +kernel
theorem dX9_person_13 : decode cX9_person 13 = .ok (.iload_n 2, 1) := by decide +kernel
theorem dX9_person_14 : decode cX9_person 14 = .ok (.tableswitch 69 0 3 #[30, 40, 50, 60], 30) := by decide +kernel
theorem dX9_person_44 : decode cX9_person 44 = .ok (.aload_n 0, 1) := by decide +kernel
theorem dX9_person_45 : decode cX9_person 45 = .ok (.getfield 19, 3) := by decide +kernel
theorem dX9_person_48 : decode cX9_person 48 = .ok (.getfield 120, 3) := by decide +kernel
theorem dX9_person_51 : decode cX9_person 51 = .ok (.iload_n 1, 1) := by decide +kernel
theorem dX9_person_52 : decode cX9_person 52 = .ok (.iaload, 1) := by decide +kernel
theorem dX9_person_53 : decode cX9_person 53 = .ok (.ireturn, 1) := by decide +kernel
theorem dX9_person_54 : decode cX9_person 54 = .ok (.aload_n 0, 1) := by decide +kernel
theorem dX9_person_55 : decode cX9_person 55 = .ok (.getfield 19, 3) := by decide +kernel
theorem dX9_person_58 : decode cX9_person 58 = .ok (.getfield 124, 3) := by decide +kernel
theorem dX9_person_61 : decode cX9_person 61 = .ok (.iload_n 1, 1) := by decide +kernel
theorem dX9_person_62 : decode cX9_person 62 = .ok (.iaload, 1) := by decide +kernel
theorem dX9_person_63 : decode cX9_person 63 = .ok (.ireturn, 1) := by decide +kernel
theorem dX9_person_64 : decode cX9_person 64 = .ok (.aload_n 0, 1) := by decide +kernel
theorem dX9_person_65 : decode cX9_person 65 = .ok (.getfield 19, 3) := by decide +kernel
theorem dX9_person_68 : decode cX9_person 68 = .ok (.getfield 127, 3) := by decide +kernel
theorem dX9_person_71 : decode cX9_person 71 = .ok (.iload_n 1, 1) := by decide +kernel
theorem dX9_person_72 : decode cX9_person 72 = .ok (.iaload, 1) := by decide +kernel
theorem dX9_person_73 : decode cX9_person 73 = .ok (.ireturn, 1) := by decide +kernel
theorem dX9_person_74 : decode cX9_person 74 = .ok (.aload_n 0, 1) := by decide +kernel
theorem dX9_person_75 : decode cX9_person 75 = .ok (.getfield 94, 3) := by decide +kernel
theorem dX9_person_78 : decode cX9_person 78 = .ok (.iload_n 1, 1) := by decide +kernel
theorem dX9_person_79 : decode cX9_person 79 = .ok (.invokestatic 130, 3) := by decide +kernel
theorem dX9_person_82 : decode cX9_person 82 = .ok (.ireturn, 1) := by decide +kernel
theorem dX9_person_83 : decode cX9_person 83 = .ok (.iconst (-1), 1) := by decide +kernel
theorem dX9_person_84 : decode cX9_person 84 = .ok (.ireturn, 1) := by decide +kernel
theorem dX9_likes_0 : decode cX9_likes 0 = .ok (.aload_n 0, 1) := by decide +kernel
theorem dX9_likes_1 : decode cX9_likes 1 = .ok (.getfield 19, 3) := by decide +kernel
theorem dX9_likes_4 : decode cX9_likes 4 = .ok (.iload_n 1, 1) := by decide +kernel
theorem dX9_likes_5 : decode cX9_likes 5 = .ok (.invokevirtual 116, 3) := by decide +kernel
theorem dX9_likes_8 : decode cX9_likes 8 = .ok (.ifCond .eq 19, 3) := by decide +kernel
theorem dX9_likes_11 : decode cX9_likes 11 = .ok (.aload_n 0, 1) := by decide +kernel
theorem dX9_likes_12 : decode cX9_likes 12 = .ok (.getfield 19, 3) := by decide +kernel
theorem dX9_likes_15 : decode cX9_likes 15 = .ok (.iload_n 2, 1) := by decide +kernel
theorem dX9_likes_16 : decode cX9_likes 16 = .ok (.invokevirtual 116, 3) := by decide +kernel
theorem dX9_likes_19 : decode cX9_likes 19 = .ok (.ifCond .eq 8, 3) := by decide +kernel
theorem dX9_likes_22 : decode cX9_likes 22 = .ok (.iload_n 1, 1) := by decide +kernel
theorem dX9_likes_23 : decode cX9_likes 23 = .ok (.iload_n 2, 1) := by decide +kernel
theorem dX9_likes_24 : decode cX9_likes 24 = .ok (.if_icmp .ne 5, 3) := by decide +kernel
theorem dX9_likes_27 : decode cX9_likes 27 = .ok (.iconst (-1), 1) := by decide +kernel
theorem dX9_likes_28 : decode cX9_likes 28 = .ok (.ireturn, 1) := by decide +kernel
theorem dX9_likes_29 : decode cX9_likes 29 = .ok (.aload_n 0, 1) := by decide +kernel
theorem dX9_likes_30 : decode cX9_likes 30 = .ok (.getfield 19, 3) := by decide +kernel
theorem dX9_likes_33 : decode cX9_likes 33 = .ok (.iload_n 1, 1) := by decide +kernel
theorem dX9_likes_34 : decode cX9_likes 34 = .ok (.iload_n 2, 1) := by decide +kernel
theorem dX9_likes_35 : decode cX9_likes 35 = .ok (.invokevirtual 134, 3) := by decide +kernel
theorem dX9_likes_38 : decode cX9_likes 38 = .ok (.ireturn, 1) := by decide +kernel
theorem dX9_worth_0 : decode cX9_worth 0 = .ok (.aload_n 0, 1) := by decide +kernel
theorem dX9_worth_1 : decode cX9_worth 1 = .ok (.getfield 19, 3) := by decide +kernel
theorem dX9_worth_4 : decode cX9_worth 4 = .ok (.iload_n 1, 1) := by decide +kernel
theorem dX9_worth_5 : decode cX9_worth 5 = .ok (.invokevirtual 116, 3) := by decide +kernel
theorem dX9_worth_8 : decode cX9_worth 8 = .ok (.ifCond .ne 5, 3) := by decide +kernel
theorem dX9_worth_11 : decode cX9_worth 11 = .ok (.iconst (-1), 1) := by decide +kernel
theorem dX9_worth_12 : decode cX9_worth 12 = .ok (.ireturn, 1) := by decide +kernel
theorem dX9_worth_13 : decode cX9_worth 13 = .ok (.aload_n 0, 1) := by decide +kernel
theorem dX9_worth_14 : decode cX9_worth 14 = .ok (.getfield 19, 3) := by decide +kernel
theorem dX9_worth_17 : decode cX9_worth 17 = .ok (.aload_n 0, 1) := by decide +kernel
theorem dX9_worth_18 : decode cX9_worth 18 = .ok (.getfield 94, 3) := by decide +kernel
theorem dX9_worth_21 : decode cX9_worth 21 = .ok (.iload_n 1, 1) := by decide +kernel
theorem dX9_worth_22 : decode cX9_worth 22 = .ok (.invokevirtual 137, 3) := by decide +kernel
theorem dX9_worth_25 : decode cX9_worth 25 = .ok (.sipush 1000, 3) := by decide +kernel
theorem dX9_worth_28 : decode cX9_worth 28 = .ok (.iadd, 1) := by decide +kernel
theorem dX9_worth_29 : decode cX9_worth 29 = .ok (.ireturn, 1) := by decide +kernel
theorem dX9_at_0 : decode cX9_at 0 = .ok (.aload_n 0, 1) := by decide +kernel
theorem dX9_at_1 : decode cX9_at 1 = .ok (.getfield 19, 3) := by decide +kernel
theorem dX9_at_4 : decode cX9_at 4 = .ok (.iload_n 1, 1) := by decide +kernel
theorem dX9_at_5 : decode cX9_at 5 = .ok (.invokevirtual 116, 3) := by decide +kernel
theorem dX9_at_8 : decode cX9_at 8 = .ok (.ifCond .eq 14, 3) := by decide +kernel
theorem dX9_at_11 : decode cX9_at 11 = .ok (.aload_n 0, 1) := by decide +kernel
theorem dX9_at_12 : decode cX9_at 12 = .ok (.getfield 94, 3) := by decide +kernel
theorem dX9_at_15 : decode cX9_at 15 = .ok (.iload_n 1, 1) := by decide +kernel
theorem dX9_at_16 : decode cX9_at 16 = .ok (.invokestatic 140, 3) := by decide +kernel
theorem dX9_at_19 : decode cX9_at 19 = .ok (.goto 4, 3) := by decide +kernel
theorem dX9_at_22 : decode cX9_at 22 = .ok (.iconst (-1), 1) := by decide +kernel
theorem dX9_at_23 : decode cX9_at 23 = .ok (.ireturn, 1) := by decide +kernel
theorem dX9_suits_0 : decode cX9_suits 0 = .ok (.iload_n 2, 1) := by decide +kernel
theorem dX9_suits_1 : decode cX9_suits 1 = .ok (.ifCond .eq 17, 3) := by decide +kernel
theorem dX9_suits_4 : decode cX9_suits 4 = .ok (.aload_n 0, 1) := by decide +kernel
theorem dX9_suits_5 : decode cX9_suits 5 = .ok (.getfield 19, 3) := by decide +kernel
theorem dX9_suits_8 : decode cX9_suits 8 = .ok (.iload_n 1, 1) := by decide +kernel
theorem dX9_suits_9 : decode cX9_suits 9 = .ok (.invokevirtual 143, 3) := by decide +kernel
theorem dX9_suits_12 : decode cX9_suits 12 = .ok (.ifCond .ne 19, 3) := by decide +kernel
theorem dX9_suits_15 : decode cX9_suits 15 = .ok (.goto 14, 3) := by decide +kernel
theorem dX9_suits_18 : decode cX9_suits 18 = .ok (.aload_n 0, 1) := by decide +kernel
theorem dX9_suits_19 : decode cX9_suits 19 = .ok (.getfield 19, 3) := by decide +kernel
theorem dX9_suits_22 : decode cX9_suits 22 = .ok (.iload_n 1, 1) := by decide +kernel
theorem dX9_suits_23 : decode cX9_suits 23 = .ok (.invokevirtual 146, 3) := by decide +kernel
theorem dX9_suits_26 : decode cX9_suits 26 = .ok (.ifCond .ne 5, 3) := by decide +kernel
theorem dX9_suits_29 : decode cX9_suits 29 = .ok (.iconst (-1), 1) := by decide +kernel
theorem dX9_suits_30 : decode cX9_suits 30 = .ok (.ireturn, 1) := by decide +kernel
theorem dX9_suits_31 : decode cX9_suits 31 = .ok (.iload_n 2, 1) := by decide +kernel
theorem dX9_suits_32 : decode cX9_suits 32 = .ok (.ifCond .eq 21, 3) := by decide +kernel
theorem dX9_suits_35 : decode cX9_suits 35 = .ok (.aload_n 0, 1) := by decide +kernel
theorem dX9_suits_36 : decode cX9_suits 36 = .ok (.getfield 19, 3) := by decide +kernel
theorem dX9_suits_39 : decode cX9_suits 39 = .ok (.aload_n 0, 1) := by decide +kernel
theorem dX9_suits_40 : decode cX9_suits 40 = .ok (.getfield 94, 3) := by decide +kernel
theorem dX9_suits_43 : decode cX9_suits 43 = .ok (.iload_n 1, 1) := by decide +kernel
theorem dX9_suits_44 : decode cX9_suits 44 = .ok (.invokevirtual 149, 3) := by decide +kernel
theorem dX9_suits_47 : decode cX9_suits 47 = .ok (.ifCond .eq 25, 3) := by decide +kernel
theorem dX9_suits_50 : decode cX9_suits 50 = .ok (.goto 18, 3) := by decide +kernel
theorem dX9_suits_53 : decode cX9_suits 53 = .ok (.aload_n 0, 1) := by decide +kernel
theorem dX9_suits_54 : decode cX9_suits 54 = .ok (.getfield 19, 3) := by decide +kernel
theorem dX9_suits_57 : decode cX9_suits 57 = .ok (.aload_n 0, 1) := by decide +kernel
theorem dX9_suits_58 : decode cX9_suits 58 = .ok (.getfield 94, 3) := by decide +kernel
theorem dX9_suits_61 : decode cX9_suits 61 = .ok (.iload_n 1, 1) := by decide +kernel
theorem dX9_suits_62 : decode cX9_suits 62 = .ok (.invokevirtual 153, 3) := by decide +kernel
theorem dX9_suits_65 : decode cX9_suits 65 = .ok (.ifCond .eq 7, 3) := by decide +kernel
theorem dX9_suits_68 : decode cX9_suits 68 = .ok (.iconst 1, 1) := by decide +kernel
theorem dX9_suits_69 : decode cX9_suits 69 = .ok (.goto 4, 3) := by decide +kernel
theorem dX9_suits_72 : decode cX9_suits 72 = .ok (.iconst 0, 1) := by decide +kernel
theorem dX9_suits_73 : decode cX9_suits 73 = .ok (.ireturn, 1) := by decide +kernel
theorem dX9_change_0 : decode cX9_change 0 = .ok (.aload_n 0, 1) := by decide +kernel
theorem dX9_change_1 : decode cX9_change 1 = .ok (.getfield 19, 3) := by decide +kernel
theorem dX9_change_4 : decode cX9_change 4 = .ok (.iload_n 1, 1) := by decide +kernel
theorem dX9_change_5 : decode cX9_change 5 = .ok (.invokevirtual 146, 3) := by decide +kernel
theorem dX9_change_8 : decode cX9_change 8 = .ok (.ifCond .ne 5, 3) := by decide +kernel
theorem dX9_change_11 : decode cX9_change 11 = .ok (.iconst (-1), 1) := by decide +kernel
theorem dX9_change_12 : decode cX9_change 12 = .ok (.ireturn, 1) := by decide +kernel
theorem dX9_change_13 : decode cX9_change 13 = .ok (.aload_n 0, 1) := by decide +kernel
theorem dX9_change_14 : decode cX9_change 14 = .ok (.getfield 19, 3) := by decide +kernel
theorem dX9_change_17 : decode cX9_change 17 = .ok (.aload_n 0, 1) := by decide +kernel
theorem dX9_change_18 : decode cX9_change 18 = .ok (.getfield 94, 3) := by decide +kernel
theorem dX9_change_21 : decode cX9_change 21 = .ok (.iload_n 1, 1) := by decide +kernel
theorem dX9_change_22 : decode cX9_change 22 = .ok (.invokevirtual 153, 3) := by decide +kernel
theorem dX9_change_25 : decode cX9_change 25 = .ok (.ifCond .ne 6, 3) := by decide +kernel
theorem dX9_change_28 : decode cX9_change 28 = .ok (.bipush (-2), 2) := by decide +kernel
theorem dX9_change_30 : decode cX9_change 30 = .ok (.ireturn, 1) := by decide +kernel
theorem dX9_change_31 : decode cX9_change 31 = .ok (.aload_n 0, 1) := by decide +kernel
theorem dX9_change_32 : decode cX9_change 32 = .ok (.aload_n 0, 1) := by decide +kernel
theorem dX9_change_33 : decode cX9_change 33 = .ok (.getfield 19, 3) := by decide +kernel
theorem dX9_change_36 : decode cX9_change 36 = .ok (.aload_n 0, 1) := by decide +kernel
theorem dX9_change_37 : decode cX9_change 37 = .ok (.getfield 94, 3) := by decide +kernel
theorem dX9_change_40 : decode cX9_change 40 = .ok (.iload_n 1, 1) := by decide +kernel
theorem dX9_change_41 : decode cX9_change 41 = .ok (.invokevirtual 156, 3) := by decide +kernel
theorem dX9_change_44 : decode cX9_change 44 = .ok (.iload_n 1, 1) := by decide +kernel
theorem dX9_change_45 : decode cX9_change 45 = .ok (.invokevirtual 159, 3) := by decide +kernel
theorem dX9_change_48 : decode cX9_change 48 = .ok (.ireturn, 1) := by decide +kernel
theorem dX9_round_0 : decode cX9_round 0 = .ok (.aload_n 0, 1) := by decide +kernel
theorem dX9_round_1 : decode cX9_round 1 = .ok (.getfield 19, 3) := by decide +kernel
theorem dX9_round_4 : decode cX9_round 4 = .ok (.iload_n 1, 1) := by decide +kernel
theorem dX9_round_5 : decode cX9_round 5 = .ok (.invokevirtual 143, 3) := by decide +kernel
theorem dX9_round_8 : decode cX9_round 8 = .ok (.ifCond .ne 5, 3) := by decide +kernel
theorem dX9_round_11 : decode cX9_round 11 = .ok (.iconst (-1), 1) := by decide +kernel
theorem dX9_round_12 : decode cX9_round 12 = .ok (.ireturn, 1) := by decide +kernel
theorem dX9_round_13 : decode cX9_round 13 = .ok (.aload_n 0, 1) := by decide +kernel
theorem dX9_round_14 : decode cX9_round 14 = .ok (.getfield 19, 3) := by decide +kernel
theorem dX9_round_17 : decode cX9_round 17 = .ok (.aload_n 0, 1) := by decide +kernel
theorem dX9_round_18 : decode cX9_round 18 = .ok (.getfield 94, 3) := by decide +kernel
theorem dX9_round_21 : decode cX9_round 21 = .ok (.iload_n 1, 1) := by decide +kernel
theorem dX9_round_22 : decode cX9_round 22 = .ok (.invokevirtual 149, 3) := by decide +kernel
theorem dX9_round_25 : decode cX9_round 25 = .ok (.ifCond .ne 6, 3) := by decide +kernel
theorem dX9_round_28 : decode cX9_round 28 = .ok (.bipush (-2), 2) := by decide +kernel
theorem dX9_round_30 : decode cX9_round 30 = .ok (.ireturn, 1) := by decide +kernel
theorem dX9_round_31 : decode cX9_round 31 = .ok (.aload_n 0, 1) := by decide +kernel
theorem dX9_round_32 : decode cX9_round 32 = .ok (.aload_n 0, 1) := by decide +kernel
theorem dX9_round_33 : decode cX9_round 33 = .ok (.getfield 19, 3) := by decide +kernel
theorem dX9_round_36 : decode cX9_round 36 = .ok (.aload_n 0, 1) := by decide +kernel
theorem dX9_round_37 : decode cX9_round 37 = .ok (.getfield 94, 3) := by decide +kernel
theorem dX9_round_40 : decode cX9_round 40 = .ok (.iload_n 1, 1) := by decide +kernel
theorem dX9_round_41 : decode cX9_round 41 = .ok (.invokevirtual 162, 3) := by decide +kernel
theorem dX9_round_44 : decode cX9_round 44 = .ok (.iload_n 1, 1) := by decide +kernel
theorem dX9_round_45 : decode cX9_round 45 = .ok (.invokevirtual 159, 3) := by decide +kernel
theorem dX9_round_48 : decode cX9_round 48 = .ok (.ireturn, 1) := by decide +kernel
theorem dX9_moveTo_0 : decode cX9_moveTo 0 = .ok (.aload_n 0, 1) := by decide +kernel
theorem dX9_moveTo_1 : decode cX9_moveTo 1 = .ok (.getfield 35, 3) := by decide +kernel
theorem dX9_moveTo_4 : decode cX9_moveTo 4 = .ok (.invokevirtual 165, 3) := by decide +kernel
theorem dX9_moveTo_7 : decode cX9_moveTo 7 = .ok (.ifCond .eq 10, 3) := by decide +kernel
theorem dX9_moveTo_10 : decode cX9_moveTo 10 = .ok (.aload_n 0, 1) := by decide +kernel
theorem dX9_moveTo_11 : decode cX9_moveTo 11 = .ok (.getfield 35, 3) := by decide +kernel
theorem dX9_moveTo_14 : decode cX9_moveTo 14 = .ok (.invokevirtual 168, 3) := by decide +kernel
theorem dX9_moveTo_17 : decode cX9_moveTo 17 = .ok (.aload_n 0, 1) := by decide +kernel
theorem dX9_moveTo_18 : decode cX9_moveTo 18 = .ok (.getfield 35, 3) := by decide +kernel
theorem dX9_moveTo_21 : decode cX9_moveTo 21 = .ok (.aload_n 0, 1) := by decide +kernel
theorem dX9_moveTo_22 : decode cX9_moveTo 22 = .ok (.getfield 94, 3) := by decide +kernel
theorem dX9_moveTo_25 : decode cX9_moveTo 25 = .ok (.invokevirtual 171, 3) := by decide +kernel
theorem dX9_moveTo_28 : decode cX9_moveTo 28 = .ok (.aload_n 0, 1) := by decide +kernel
theorem dX9_moveTo_29 : decode cX9_moveTo 29 = .ok (.iload_n 1, 1) := by decide +kernel
theorem dX9_moveTo_30 : decode cX9_moveTo 30 = .ok (.putfield 94, 3) := by decide +kernel
theorem dX9_moveTo_33 : decode cX9_moveTo 33 = .ok (.aload_n 0, 1) := by decide +kernel
theorem dX9_moveTo_34 : decode cX9_moveTo 34 = .ok (.getfield 94, 3) := by decide +kernel
theorem dX9_moveTo_37 : decode cX9_moveTo 37 = .ok (.iload_n 2, 1) := by decide +kernel
theorem dX9_moveTo_38 : decode cX9_moveTo 38 = .ok (.invokestatic 140, 3) := by decide +kernel
theorem dX9_moveTo_41 : decode cX9_moveTo 41 = .ok (.ireturn, 1) := by decide +kernel
theorem dX9_undo_0 : decode cX9_undo 0 = .ok (.aload_n 0, 1) := by decide +kernel
theorem dX9_undo_1 : decode cX9_undo 1 = .ok (.getfield 35, 3) := by decide +kernel
theorem dX9_undo_4 : decode cX9_undo 4 = .ok (.getfield 112, 3) := by decide +kernel
theorem dX9_undo_7 : decode cX9_undo 7 = .ok (.ifCond .ne 6, 3) := by decide +kernel
theorem dX9_undo_10 : decode cX9_undo 10 = .ok (.bipush (-2), 2) := by decide +kernel
theorem dX9_undo_12 : decode cX9_undo 12 = .ok (.ireturn, 1) := by decide +kernel
theorem dX9_undo_13 : decode cX9_undo 13 = .ok (.aload_n 0, 1) := by decide +kernel
theorem dX9_undo_14 : decode cX9_undo 14 = .ok (.aload_n 0, 1) := by decide +kernel
theorem dX9_undo_15 : decode cX9_undo 15 = .ok (.getfield 35, 3) := by decide +kernel
theorem dX9_undo_18 : decode cX9_undo 18 = .ok (.invokevirtual 174, 3) := by decide +kernel
theorem dX9_undo_21 : decode cX9_undo 21 = .ok (.putfield 94, 3) := by decide +kernel
theorem dX9_undo_24 : decode cX9_undo 24 = .ok (.aload_n 0, 1) := by decide +kernel
theorem dX9_undo_25 : decode cX9_undo 25 = .ok (.getfield 35, 3) := by decide +kernel
theorem dX9_undo_28 : decode cX9_undo 28 = .ok (.getfield 112, 3) := by decide +kernel
theorem dX9_undo_31 : decode cX9_undo 31 = .ok (.ireturn, 1) := by decide +kernel
theorem dX9_tell_0 : decode cX9_tell 0 = .ok (.aload_n 0, 1) := by decide +kernel
theorem dX9_tell_1 : decode cX9_tell 1 = .ok (.getfield 19, 3) := by decide +kernel
theorem dX9_tell_4 : decode cX9_tell 4 = .ok (.iload_n 1, 1) := by decide +kernel
theorem dX9_tell_5 : decode cX9_tell 5 = .ok (.invokevirtual 146, 3) := by decide +kernel
theorem dX9_tell_8 : decode cX9_tell 8 = .ok (.ifCond .ne 5, 3) := by decide +kernel
theorem dX9_tell_11 : decode cX9_tell 11 = .ok (.iconst (-1), 1) := by decide +kernel
theorem dX9_tell_12 : decode cX9_tell 12 = .ok (.ireturn, 1) := by decide +kernel
theorem dX9_tell_13 : decode cX9_tell 13 = .ok (.aload_n 0, 1) := by decide +kernel
theorem dX9_tell_14 : decode cX9_tell 14 = .ok (.getfield 31, 3) := by decide +kernel
theorem dX9_tell_17 : decode cX9_tell 17 = .ok (.invokevirtual 165, 3) := by decide +kernel
theorem dX9_tell_20 : decode cX9_tell 20 = .ok (.ifCond .eq 6, 3) := by decide +kernel
theorem dX9_tell_23 : decode cX9_tell 23 = .ok (.bipush (-3), 2) := by decide +kernel
theorem dX9_tell_25 : decode cX9_tell 25 = .ok (.ireturn, 1) := by decide +kernel
theorem dX9_tell_26 : decode cX9_tell 26 = .ok (.aload_n 0, 1) := by decide +kernel
theorem dX9_tell_27 : decode cX9_tell 27 = .ok (.getfield 31, 3) := by decide +kernel
theorem dX9_tell_30 : decode cX9_tell 30 = .ok (.iload_n 1, 1) := by decide +kernel
theorem dX9_tell_31 : decode cX9_tell 31 = .ok (.invokevirtual 171, 3) := by decide +kernel
theorem dX9_tell_34 : decode cX9_tell 34 = .ok (.aload_n 0, 1) := by decide +kernel
theorem dX9_tell_35 : decode cX9_tell 35 = .ok (.getfield 31, 3) := by decide +kernel
theorem dX9_tell_38 : decode cX9_tell 38 = .ok (.getfield 112, 3) := by decide +kernel
theorem dX9_tell_41 : decode cX9_tell 41 = .ok (.ireturn, 1) := by decide +kernel
theorem dX9_noRow_0 : decode cX9_noRow 0 = .ok (.aload_n 0, 1) := by decide +kernel
theorem dX9_noRow_1 : decode cX9_noRow 1 = .ok (.getfield 31, 3) := by decide +kernel
theorem dX9_noRow_4 : decode cX9_noRow 4 = .ok (.getfield 112, 3) := by decide +kernel
theorem dX9_noRow_7 : decode cX9_noRow 7 = .ok (.istore_n 1, 1) := by decide +kernel
theorem dX9_noRow_8 : decode cX9_noRow 8 = .ok (.aload_n 0, 1) := by decide +kernel
theorem dX9_noRow_9 : decode cX9_noRow 9 = .ok (.getfield 31, 3) := by decide +kernel
theorem dX9_noRow_12 : decode cX9_noRow 12 = .ok (.iconst 0, 1) := by decide +kernel
theorem dX9_noRow_13 : decode cX9_noRow 13 = .ok (.putfield 112, 3) := by decide +kernel
theorem dX9_noRow_16 : decode cX9_noRow 16 = .ok (.iload_n 1, 1) := by decide +kernel
theorem dX9_noRow_17 : decode cX9_noRow 17 = .ok (.ireturn, 1) := by decide +kernel
theorem dX9_judge_0 : decode cX9_judge 0 = .ok (.aload_n 0, 1) := by decide +kernel
theorem dX9_judge_1 : decode cX9_judge 1 = .ok (.getfield 94, 3) := by decide +kernel
theorem dX9_judge_4 : decode cX9_judge 4 = .ok (.istore_n 1, 1) := by decide +kernel
theorem dX9_judge_5 : decode cX9_judge 5 = .ok (.iconst 0, 1) := by decide +kernel
theorem dX9_judge_6 : decode cX9_judge 6 = .ok (.istore_n 2, 1) := by decide +kernel
theorem dX9_judge_7 : decode cX9_judge 7 = .ok (.iload_n 2, 1) := by decide +kernel
theorem dX9_judge_8 : decode cX9_judge 8 = .ok (.aload_n 0, 1) := by decide +kernel
theorem dX9_judge_9 : decode cX9_judge 9 = .ok (.getfield 31, 3) := by decide +kernel
theorem dX9_judge_12 : decode cX9_judge 12 = .ok (.getfield 112, 3) := by decide +kernel
theorem dX9_judge_15 : decode cX9_judge 15 = .ok (.if_icmp .ge 42, 3) := by decide +kernel
theorem dX9_judge_18 : decode cX9_judge 18 = .ok (.aload_n 0, 1) := by decide +kernel
theorem dX9_judge_19 : decode cX9_judge 19 = .ok (.getfield 31, 3) := by decide +kernel
theorem dX9_judge_22 : decode cX9_judge 22 = .ok (.iload_n 2, 1) := by decide +kernel
theorem dX9_judge_23 : decode cX9_judge 23 = .ok (.invokevirtual 178, 3) := by decide +kernel
theorem dX9_judge_26 : decode cX9_judge 26 = .ok (.istore_n 3, 1) := by decide +kernel
theorem dX9_judge_27 : decode cX9_judge 27 = .ok (.aload_n 0, 1) := by decide +kernel
theorem dX9_judge_28 : decode cX9_judge 28 = .ok (.getfield 19, 3) := by decide +kernel
theorem dX9_judge_31 : decode cX9_judge 31 = .ok (.iload_n 1, 1) := by decide +kernel
theorem dX9_judge_32 : decode cX9_judge 32 = .ok (.iload_n 3, 1) := by decide +kernel
theorem dX9_judge_33 : decode cX9_judge 33 = .ok (.invokevirtual 153, 3) := by decide +kernel
theorem dX9_judge_36 : decode cX9_judge 36 = .ok (.ifCond .ne 5, 3) := by decide +kernel
theorem dX9_judge_39 : decode cX9_judge 39 = .ok (.iload_n 2, 1) := by decide +kernel
theorem dX9_judge_40 : decode cX9_judge 40 = .ok (.ireturn, 1) := by decide +kernel
theorem dX9_judge_41 : decode cX9_judge 41 = .ok (.aload_n 0, 1) := by decide +kernel
theorem dX9_judge_42 : decode cX9_judge 42 = .ok (.getfield 19, 3) := by decide +kernel
theorem dX9_judge_45 : decode cX9_judge 45 = .ok (.iload_n 1, 1) := by decide +kernel
theorem dX9_judge_46 : decode cX9_judge 46 = .ok (.iload_n 3, 1) := by decide +kernel
theorem dX9_judge_47 : decode cX9_judge 47 = .ok (.invokevirtual 156, 3) := by decide +kernel
theorem dX9_judge_50 : decode cX9_judge 50 = .ok (.istore_n 1, 1) := by decide +kernel
theorem dX9_judge_51 : decode cX9_judge 51 = .ok (.iinc 2 1, 3) := by decide +kernel
theorem dX9_judge_54 : decode cX9_judge 54 = .ok (.goto (-47), 3) := by decide +kernel
theorem dX9_judge_57 : decode cX9_judge 57 = .ok (.bipush (-4), 2) := by decide +kernel
theorem dX9_judge_59 : decode cX9_judge 59 = .ok (.ireturn, 1) := by decide +kernel
theorem dX9_rests_0 : decode cX9_rests 0 = .ok (.aload_n 0, 1) := by decide +kernel
theorem dX9_rests_1 : decode cX9_rests 1 = .ok (.iload_n 1, 1) := by decide +kernel
theorem dX9_rests_2 : decode cX9_rests 2 = .ok (.invokevirtual 181, 3) := by decide +kernel
theorem dX9_rests_5 : decode cX9_rests 5 = .ok (.ifCond .ne 5, 3) := by decide +kernel
theorem dX9_rests_8 : decode cX9_rests 8 = .ok (.iconst (-1), 1) := by decide +kernel
theorem dX9_rests_9 : decode cX9_rests 9 = .ok (.ireturn, 1) := by decide +kernel
theorem dX9_rests_10 : decode cX9_rests 10 = .ok (.aload_n 0, 1) := by decide +kernel
theorem dX9_rests_11 : decode cX9_rests 11 = .ok (.invokevirtual 184, 3) := by decide +kernel
theorem dX9_rests_14 : decode cX9_rests 14 = .ok (.iload_n 1, 1) := by decide +kernel
theorem dX9_rests_15 : decode cX9_rests 15 = .ok (.ifCond .ge 11, 3) := by decide +kernel
theorem dX9_rests_18 : decode cX9_rests 18 = .ok (.aload_n 0, 1) := by decide +kernel
theorem dX9_rests_19 : decode cX9_rests 19 = .ok (.getfield 51, 3) := by decide +kernel
theorem dX9_rests_22 : decode cX9_rests 22 = .ok (.getfield 187, 3) := by decide +kernel
theorem dX9_rests_25 : decode cX9_rests 25 = .ok (.ireturn, 1) := by decide +kernel
theorem dX9_rests_26 : decode cX9_rests 26 = .ok (.aload_n 0, 1) := by decide +kernel
theorem dX9_rests_27 : decode cX9_rests 27 = .ok (.getfield 51, 3) := by decide +kernel
theorem dX9_rests_30 : decode cX9_rests 30 = .ok (.getfield 190, 3) := by decide +kernel
theorem dX9_rests_33 : decode cX9_rests 33 = .ok (.ifCond .ge 8, 3) := by decide +kernel
theorem dX9_rests_36 : decode cX9_rests 36 = .ok (.bipush (-4), 2) := by decide +kernel
theorem dX9_rests_38 : decode cX9_rests 38 = .ok (.goto 21, 3) := by decide +kernel
theorem dX9_rests_41 : decode cX9_rests 41 = .ok (.aload_n 0, 1) := by decide +kernel
theorem dX9_rests_42 : decode cX9_rests 42 = .ok (.getfield 51, 3) := by decide +kernel
theorem dX9_rests_45 : decode cX9_rests 45 = .ok (.aload_n 0, 1) := by decide +kernel
theorem dX9_rests_46 : decode cX9_rests 46 = .ok (.getfield 51, 3) := by decide +kernel
theorem dX9_rests_49 : decode cX9_rests 49 = .ok (.getfield 190, 3) := by decide +kernel
theorem dX9_rests_52 : decode cX9_rests 52 = .ok (.invokevirtual 193, 3) := by decide +kernel
theorem dX9_rests_55 : decode cX9_rests 55 = .ok (.iload_n 1, 1) := by decide +kernel
theorem dX9_rests_56 : decode cX9_rests 56 = .ok (.invokestatic 140, 3) := by decide +kernel
theorem dX9_rests_59 : decode cX9_rests 59 = .ok (.ireturn, 1) := by decide +kernel
theorem dX9_goingOn_0 : decode cX9_goingOn 0 = .ok (.aload_n 0, 1) := by decide +kernel
theorem dX9_goingOn_1 : decode cX9_goingOn 1 = .ok (.iload_n 1, 1) := by decide +kernel
theorem dX9_goingOn_2 : decode cX9_goingOn 2 = .ok (.invokevirtual 181, 3) := by decide +kernel
theorem dX9_goingOn_5 : decode cX9_goingOn 5 = .ok (.ifCond .ne 5, 3) := by decide +kernel
theorem dX9_goingOn_8 : decode cX9_goingOn 8 = .ok (.iconst (-1), 1) := by decide +kernel
theorem dX9_goingOn_9 : decode cX9_goingOn 9 = .ok (.ireturn, 1) := by decide +kernel
theorem dX9_goingOn_10 : decode cX9_goingOn 10 = .ok (.aload_n 0, 1) := by decide +kernel
theorem dX9_goingOn_11 : decode cX9_goingOn 11 = .ok (.getfield 76, 3) := by decide +kernel
theorem dX9_goingOn_14 : decode cX9_goingOn 14 = .ok (.aload_n 0, 1) := by decide +kernel
theorem dX9_goingOn_15 : decode cX9_goingOn 15 = .ok (.getfield 19, 3) := by decide +kernel
theorem dX9_goingOn_18 : decode cX9_goingOn 18 = .ok (.aload_n 0, 1) := by decide +kernel
theorem dX9_goingOn_19 : decode cX9_goingOn 19 = .ok (.getfield 94, 3) := by decide +kernel
theorem dX9_goingOn_22 : decode cX9_goingOn 22 = .ok (.invokevirtual 196, 3) := by decide +kernel
theorem dX9_goingOn_25 : decode cX9_goingOn 25 = .ok (.ifCond .ne 6, 3) := by decide +kernel
theorem dX9_goingOn_28 : decode cX9_goingOn 28 = .ok (.bipush (-4), 2) := by decide +kernel
theorem dX9_goingOn_30 : decode cX9_goingOn 30 = .ok (.ireturn, 1) := by decide +kernel
theorem dX9_goingOn_31 : decode cX9_goingOn 31 = .ok (.iload_n 1, 1) := by decide +kernel
theorem dX9_goingOn_32 : decode cX9_goingOn 32 = .ok (.ifCond .ge 13, 3) := by decide +kernel
theorem dX9_goingOn_35 : decode cX9_goingOn 35 = .ok (.aload_n 0, 1) := by decide +kernel
theorem dX9_goingOn_36 : decode cX9_goingOn 36 = .ok (.getfield 76, 3) := by decide +kernel
theorem dX9_goingOn_39 : decode cX9_goingOn 39 = .ok (.getfield 200, 3) := by decide +kernel
theorem dX9_goingOn_42 : decode cX9_goingOn 42 = .ok (.goto 14, 3) := by decide +kernel
theorem dX9_goingOn_45 : decode cX9_goingOn 45 = .ok (.aload_n 0, 1) := by decide +kernel
theorem dX9_goingOn_46 : decode cX9_goingOn 46 = .ok (.getfield 76, 3) := by decide +kernel
theorem dX9_goingOn_49 : decode cX9_goingOn 49 = .ok (.getfield 203, 3) := by decide +kernel
theorem dX9_goingOn_52 : decode cX9_goingOn 52 = .ok (.iload_n 1, 1) := by decide +kernel
theorem dX9_goingOn_53 : decode cX9_goingOn 53 = .ok (.invokestatic 140, 3) := by decide +kernel
theorem dX9_goingOn_56 : decode cX9_goingOn 56 = .ok (.ireturn, 1) := by decide +kernel
theorem dX9_longest_0 : decode cX9_longest 0 = .ok (.aload_n 0, 1) := by decide +kernel
theorem dX9_longest_1 : decode cX9_longest 1 = .ok (.invokevirtual 184, 3) := by decide +kernel
theorem dX9_longest_4 : decode cX9_longest 4 = .ok (.aload_n 0, 1) := by decide +kernel
theorem dX9_longest_5 : decode cX9_longest 5 = .ok (.getfield 62, 3) := by decide +kernel
theorem dX9_longest_8 : decode cX9_longest 8 = .ok (.aload_n 0, 1) := by decide +kernel
theorem dX9_longest_9 : decode cX9_longest 9 = .ok (.getfield 51, 3) := by decide +kernel
theorem dX9_longest_12 : decode cX9_longest 12 = .ok (.aload_n 0, 1) := by decide +kernel
theorem dX9_longest_13 : decode cX9_longest 13 = .ok (.getfield 51, 3) := by decide +kernel
theorem dX9_longest_16 : decode cX9_longest 16 = .ok (.aload_n 0, 1) := by decide +kernel
theorem dX9_longest_17 : decode cX9_longest 17 = .ok (.getfield 94, 3) := by decide +kernel
theorem dX9_longest_20 : decode cX9_longest 20 = .ok (.invokevirtual 206, 3) := by decide +kernel
theorem dX9_longest_23 : decode cX9_longest 23 = .ok (.invokevirtual 209, 3) := by decide +kernel
theorem dX9_longest_26 : decode cX9_longest 26 = .ok (.istore_n 1, 1) := by decide +kernel
theorem dX9_longest_27 : decode cX9_longest 27 = .ok (.iload_n 1, 1) := by decide +kernel
theorem dX9_longest_28 : decode cX9_longest 28 = .ok (.ifCond .ge 8, 3) := by decide +kernel
theorem dX9_longest_31 : decode cX9_longest 31 = .ok (.bipush (-4), 2) := by decide +kernel
theorem dX9_longest_33 : decode cX9_longest 33 = .ok (.goto 4, 3) := by decide +kernel
theorem dX9_longest_36 : decode cX9_longest 36 = .ok (.iload_n 1, 1) := by decide +kernel
theorem dX9_longest_37 : decode cX9_longest 37 = .ok (.ireturn, 1) := by decide +kernel
theorem dX9_shortest_0 : decode cX9_shortest 0 = .ok (.iload_n 1, 1) := by decide +kernel
theorem dX9_shortest_1 : decode cX9_shortest 1 = .ok (.invokestatic 213, 3) := by decide +kernel
theorem dX9_shortest_4 : decode cX9_shortest 4 = .ok (.ifCond .ne 5, 3) := by decide +kernel
theorem dX9_shortest_7 : decode cX9_shortest 7 = .ok (.iconst (-1), 1) := by decide +kernel
theorem dX9_shortest_8 : decode cX9_shortest 8 = .ok (.ireturn, 1) := by decide +kernel
theorem dX9_shortest_9 : decode cX9_shortest 9 = .ok (.aload_n 0, 1) := by decide +kernel
theorem dX9_shortest_10 : decode cX9_shortest 10 = .ok (.invokevirtual 184, 3) := by decide +kernel
theorem dX9_shortest_13 : decode cX9_shortest 13 = .ok (.aload_n 0, 1) := by decide +kernel
theorem dX9_shortest_14 : decode cX9_shortest 14 = .ok (.getfield 62, 3) := by decide +kernel
theorem dX9_shortest_17 : decode cX9_shortest 17 = .ok (.aload_n 0, 1) := by decide +kernel
theorem dX9_shortest_18 : decode cX9_shortest 18 = .ok (.getfield 51, 3) := by decide +kernel
theorem dX9_shortest_21 : decode cX9_shortest 21 = .ok (.aload_n 0, 1) := by decide +kernel
theorem dX9_shortest_22 : decode cX9_shortest 22 = .ok (.getfield 51, 3) := by decide +kernel
theorem dX9_shortest_25 : decode cX9_shortest 25 = .ok (.aload_n 0, 1) := by decide +kernel
theorem dX9_shortest_26 : decode cX9_shortest 26 = .ok (.getfield 94, 3) := by decide +kernel
theorem dX9_shortest_29 : decode cX9_shortest 29 = .ok (.invokevirtual 206, 3) := by decide +kernel
theorem dX9_shortest_32 : decode cX9_shortest 32 = .ok (.iconst (-1), 1) := by decide +kernel
theorem dX9_shortest_33 : decode cX9_shortest 33 = .ok (.invokevirtual 216, 3) := by decide +kernel
theorem dX9_shortest_36 : decode cX9_shortest 36 = .ok (.aload_n 0, 1) := by decide +kernel
theorem dX9_shortest_37 : decode cX9_shortest 37 = .ok (.getfield 62, 3) := by decide +kernel
theorem dX9_shortest_40 : decode cX9_shortest 40 = .ok (.aload_n 0, 1) := by decide +kernel
theorem dX9_shortest_41 : decode cX9_shortest 41 = .ok (.getfield 51, 3) := by decide +kernel
theorem dX9_shortest_44 : decode cX9_shortest 44 = .ok (.invokevirtual 220, 3) := by decide +kernel
theorem dX9_shortest_47 : decode cX9_shortest 47 = .ok (.istore_n 2, 1) := by decide +kernel
theorem dX9_shortest_48 : decode cX9_shortest 48 = .ok (.iload_n 2, 1) := by decide +kernel
theorem dX9_shortest_49 : decode cX9_shortest 49 = .ok (.ifCond .ge 8, 3) := by decide +kernel
theorem dX9_shortest_52 : decode cX9_shortest 52 = .ok (.bipush (-4), 2) := by decide +kernel
theorem dX9_shortest_54 : decode cX9_shortest 54 = .ok (.goto 9, 3) := by decide +kernel
theorem dX9_shortest_57 : decode cX9_shortest 57 = .ok (.aload_n 0, 1) := by decide +kernel
theorem dX9_shortest_58 : decode cX9_shortest 58 = .ok (.iload_n 2, 1) := by decide +kernel
theorem dX9_shortest_59 : decode cX9_shortest 59 = .ok (.iload_n 1, 1) := by decide +kernel
theorem dX9_shortest_60 : decode cX9_shortest 60 = .ok (.invokevirtual 224, 3) := by decide +kernel
theorem dX9_shortest_63 : decode cX9_shortest 63 = .ok (.ireturn, 1) := by decide +kernel
theorem dX9_comes_0 : decode cX9_comes 0 = .ok (.aload_n 0, 1) := by decide +kernel
theorem dX9_comes_1 : decode cX9_comes 1 = .ok (.getfield 19, 3) := by decide +kernel
theorem dX9_comes_4 : decode cX9_comes 4 = .ok (.iload_n 1, 1) := by decide +kernel
theorem dX9_comes_5 : decode cX9_comes 5 = .ok (.invokevirtual 116, 3) := by decide +kernel
theorem dX9_comes_8 : decode cX9_comes 8 = .ok (.ifCond .eq 21, 3) := by decide +kernel
theorem dX9_comes_11 : decode cX9_comes 11 = .ok (.aload_n 0, 1) := by decide +kernel
theorem dX9_comes_12 : decode cX9_comes 12 = .ok (.getfield 19, 3) := by decide +kernel
theorem dX9_comes_15 : decode cX9_comes 15 = .ok (.iload_n 2, 1) := by decide +kernel
theorem dX9_comes_16 : decode cX9_comes 16 = .ok (.invokevirtual 116, 3) := by decide +kernel
theorem dX9_comes_19 : decode cX9_comes 19 = .ok (.ifCond .eq 10, 3) := by decide +kernel
theorem dX9_comes_22 : decode cX9_comes 22 = .ok (.iload_n 3, 1) := by decide +kernel
theorem dX9_comes_23 : decode cX9_comes 23 = .ok (.invokestatic 213, 3) := by decide +kernel
theorem dX9_comes_26 : decode cX9_comes 26 = .ok (.ifCond .ne 5, 3) := by decide +kernel
theorem dX9_comes_29 : decode cX9_comes 29 = .ok (.iconst (-1), 1) := by decide +kernel
theorem dX9_comes_30 : decode cX9_comes 30 = .ok (.ireturn, 1) := by decide +kernel
theorem dX9_comes_31 : decode cX9_comes 31 = .ok (.aload_n 0, 1) := by decide +kernel
theorem dX9_comes_32 : decode cX9_comes 32 = .ok (.invokevirtual 184, 3) := by decide +kernel
theorem dX9_comes_35 : decode cX9_comes 35 = .ok (.aload_n 0, 1) := by decide +kernel
theorem dX9_comes_36 : decode cX9_comes 36 = .ok (.iload_n 1, 1) := by decide +kernel
theorem dX9_comes_37 : decode cX9_comes 37 = .ok (.iload_n 2, 1) := by decide +kernel
theorem dX9_comes_38 : decode cX9_comes 38 = .ok (.iconst (-1), 1) := by decide +kernel
theorem dX9_comes_39 : decode cX9_comes 39 = .ok (.invokevirtual 227, 3) := by decide +kernel
theorem dX9_comes_42 : decode cX9_comes 42 = .ok (.istore 4, 2) := by decide +kernel
theorem dX9_comes_44 : decode cX9_comes 44 = .ok (.iload 4, 2) := by decide +kernel
theorem dX9_comes_46 : decode cX9_comes 46 = .ok (.ifCond .ge 8, 3) := by decide +kernel
theorem dX9_comes_49 : decode cX9_comes 49 = .ok (.bipush (-4), 2) := by decide +kernel
theorem dX9_comes_51 : decode cX9_comes 51 = .ok (.goto 10, 3) := by decide +kernel
theorem dX9_comes_54 : decode cX9_comes 54 = .ok (.aload_n 0, 1) := by decide +kernel
theorem dX9_comes_55 : decode cX9_comes 55 = .ok (.iload 4, 2) := by decide +kernel
theorem dX9_comes_57 : decode cX9_comes 57 = .ok (.iload_n 3, 1) := by decide +kernel
theorem dX9_comes_58 : decode cX9_comes 58 = .ok (.invokevirtual 224, 3) := by decide +kernel
theorem dX9_comes_61 : decode cX9_comes 61 = .ok (.ireturn, 1) := by decide +kernel
theorem dX9_bars_0 : decode cX9_bars 0 = .ok (.aload_n 0, 1) := by decide +kernel
theorem dX9_bars_1 : decode cX9_bars 1 = .ok (.getfield 19, 3) := by decide +kernel
theorem dX9_bars_4 : decode cX9_bars 4 = .ok (.iload_n 1, 1) := by decide +kernel
theorem dX9_bars_5 : decode cX9_bars 5 = .ok (.invokevirtual 116, 3) := by decide +kernel
theorem dX9_bars_8 : decode cX9_bars 8 = .ok (.ifCond .eq 14, 3) := by decide +kernel
theorem dX9_bars_11 : decode cX9_bars 11 = .ok (.aload_n 0, 1) := by decide +kernel
theorem dX9_bars_12 : decode cX9_bars 12 = .ok (.getfield 19, 3) := by decide +kernel
theorem dX9_bars_15 : decode cX9_bars 15 = .ok (.iload_n 2, 1) := by decide +kernel
theorem dX9_bars_16 : decode cX9_bars 16 = .ok (.invokevirtual 116, 3) := by decide +kernel
theorem dX9_bars_19 : decode cX9_bars 19 = .ok (.ifCond .ne 5, 3) := by decide +kernel
theorem dX9_bars_22 : decode cX9_bars 22 = .ok (.iconst (-1), 1) := by decide +kernel
theorem dX9_bars_23 : decode cX9_bars 23 = .ok (.ireturn, 1) := by decide +kernel
theorem dX9_bars_24 : decode cX9_bars 24 = .ok (.aload_n 0, 1) := by decide +kernel
theorem dX9_bars_25 : decode cX9_bars 25 = .ok (.invokevirtual 184, 3) := by decide +kernel
theorem dX9_bars_28 : decode cX9_bars 28 = .ok (.aload_n 0, 1) := by decide +kernel
theorem dX9_bars_29 : decode cX9_bars 29 = .ok (.iload_n 1, 1) := by decide +kernel
theorem dX9_bars_30 : decode cX9_bars 30 = .ok (.iload_n 2, 1) := by decide +kernel
theorem dX9_bars_31 : decode cX9_bars 31 = .ok (.iconst (-1), 1) := by decide +kernel
theorem dX9_bars_32 : decode cX9_bars 32 = .ok (.invokevirtual 227, 3) := by decide +kernel
theorem dX9_bars_35 : decode cX9_bars 35 = .ok (.ifCond .lt 6, 3) := by decide +kernel
theorem dX9_bars_38 : decode cX9_bars 38 = .ok (.bipush (-4), 2) := by decide +kernel
theorem dX9_bars_40 : decode cX9_bars 40 = .ok (.ireturn, 1) := by decide +kernel
theorem dX9_bars_41 : decode cX9_bars 41 = .ok (.iconst 0, 1) := by decide +kernel
theorem dX9_bars_42 : decode cX9_bars 42 = .ok (.istore_n 3, 1) := by decide +kernel
theorem dX9_bars_43 : decode cX9_bars 43 = .ok (.iload_n 3, 1) := by decide +kernel
theorem dX9_bars_44 : decode cX9_bars 44 = .ok (.aload_n 0, 1) := by decide +kernel
theorem dX9_bars_45 : decode cX9_bars 45 = .ok (.getfield 19, 3) := by decide +kernel
theorem dX9_bars_48 : decode cX9_bars 48 = .ok (.getfield 84, 3) := by decide +kernel
theorem dX9_bars_51 : decode cX9_bars 51 = .ok (.if_icmp .ge 26, 3) := by decide +kernel
theorem dX9_bars_54 : decode cX9_bars 54 = .ok (.iload_n 3, 1) := by decide +kernel
theorem dX9_bars_55 : decode cX9_bars 55 = .ok (.iload_n 1, 1) := by decide +kernel
theorem dX9_bars_56 : decode cX9_bars 56 = .ok (.if_icmp .eq 15, 3) := by decide +kernel
theorem dX9_bars_59 : decode cX9_bars 59 = .ok (.aload_n 0, 1) := by decide +kernel
theorem dX9_bars_60 : decode cX9_bars 60 = .ok (.iload_n 1, 1) := by decide +kernel
theorem dX9_bars_61 : decode cX9_bars 61 = .ok (.iload_n 2, 1) := by decide +kernel
theorem dX9_bars_62 : decode cX9_bars 62 = .ok (.iload_n 3, 1) := by decide +kernel
theorem dX9_bars_63 : decode cX9_bars 63 = .ok (.invokevirtual 227, 3) := by decide +kernel
theorem dX9_bars_66 : decode cX9_bars 66 = .ok (.ifCond .lt 5, 3) := by decide +kernel
theorem dX9_bars_69 : decode cX9_bars 69 = .ok (.iload_n 3, 1) := by decide +kernel
theorem dX9_bars_70 : decode cX9_bars 70 = .ok (.ireturn, 1) := by decide +kernel
theorem dX9_bars_71 : decode cX9_bars 71 = .ok (.iinc 3 1, 3) := by decide +kernel
theorem dX9_bars_74 : decode cX9_bars 74 = .ok (.goto (-31), 3) := by decide +kernel
theorem dX9_bars_77 : decode cX9_bars 77 = .ok (.bipush (-4), 2) := by decide +kernel
theorem dX9_bars_79 : decode cX9_bars 79 = .ok (.ireturn, 1) := by decide +kernel
theorem dX9_best_0 : decode cX9_best 0 = .ok (.aload_n 0, 1) := by decide +kernel
theorem dX9_best_1 : decode cX9_best 1 = .ok (.iload_n 1, 1) := by decide +kernel
theorem dX9_best_2 : decode cX9_best 2 = .ok (.invokevirtual 181, 3) := by decide +kernel
theorem dX9_best_5 : decode cX9_best 5 = .ok (.ifCond .ne 5, 3) := by decide +kernel
theorem dX9_best_8 : decode cX9_best 8 = .ok (.iconst (-1), 1) := by decide +kernel
theorem dX9_best_9 : decode cX9_best 9 = .ok (.ireturn, 1) := by decide +kernel
theorem dX9_best_10 : decode cX9_best 10 = .ok (.aload_n 0, 1) := by decide +kernel
theorem dX9_best_11 : decode cX9_best 11 = .ok (.getfield 19, 3) := by decide +kernel
theorem dX9_best_14 : decode cX9_best 14 = .ok (.getfield 84, 3) := by decide +kernel
theorem dX9_best_17 : decode cX9_best 17 = .ok (.invokestatic 88, 3) := by decide +kernel
theorem dX9_best_20 : decode cX9_best 20 = .ok (.istore_n 2, 1) := by decide +kernel
theorem dX9_best_21 : decode cX9_best 21 = .ok (.aload_n 0, 1) := by decide +kernel
theorem dX9_best_22 : decode cX9_best 22 = .ok (.getfield 19, 3) := by decide +kernel
theorem dX9_best_25 : decode cX9_best 25 = .ok (.iload_n 2, 1) := by decide +kernel
theorem dX9_best_26 : decode cX9_best 26 = .ok (.invokevirtual 231, 3) := by decide +kernel
theorem dX9_best_29 : decode cX9_best 29 = .ok (.istore_n 3, 1) := by decide +kernel
theorem dX9_best_30 : decode cX9_best 30 = .ok (.iload_n 2, 1) := by decide +kernel
theorem dX9_best_31 : decode cX9_best 31 = .ok (.aload_n 0, 1) := by decide +kernel
theorem dX9_best_32 : decode cX9_best 32 = .ok (.getfield 19, 3) := by decide +kernel
theorem dX9_best_35 : decode cX9_best 35 = .ok (.getfield 84, 3) := by decide +kernel
theorem dX9_best_38 : decode cX9_best 38 = .ok (.invokestatic 234, 3) := by decide +kernel
theorem dX9_best_41 : decode cX9_best 41 = .ok (.istore 4, 2) := by decide +kernel
theorem dX9_best_43 : decode cX9_best 43 = .ok (.iconst 1, 1) := by decide +kernel
theorem dX9_best_44 : decode cX9_best 44 = .ok (.istore 5, 2) := by decide +kernel
theorem dX9_best_46 : decode cX9_best 46 = .ok (.iload 5, 2) := by decide +kernel
theorem dX9_best_48 : decode cX9_best 48 = .ok (.sipush 720, 3) := by decide +kernel
theorem dX9_best_51 : decode cX9_best 51 = .ok (.if_icmp .ge 51, 3) := by decide +kernel
theorem dX9_best_54 : decode cX9_best 54 = .ok (.iload 4, 2) := by decide +kernel
theorem dX9_best_56 : decode cX9_best 56 = .ok (.ifCond .lt 46, 3) := by decide +kernel
theorem dX9_best_59 : decode cX9_best 59 = .ok (.aload_n 0, 1) := by decide +kernel
theorem dX9_best_60 : decode cX9_best 60 = .ok (.getfield 19, 3) := by decide +kernel
theorem dX9_best_63 : decode cX9_best 63 = .ok (.iload 4, 2) := by decide +kernel
theorem dX9_best_65 : decode cX9_best 65 = .ok (.invokevirtual 231, 3) := by decide +kernel
theorem dX9_best_68 : decode cX9_best 68 = .ok (.istore 6, 2) := by decide +kernel
theorem dX9_best_70 : decode cX9_best 70 = .ok (.iload 6, 2) := by decide +kernel
theorem dX9_best_72 : decode cX9_best 72 = .ok (.iload_n 3, 1) := by decide +kernel
theorem dX9_best_73 : decode cX9_best 73 = .ok (.if_icmp .le 9, 3) := by decide +kernel
theorem dX9_best_76 : decode cX9_best 76 = .ok (.iload 6, 2) := by decide +kernel
theorem dX9_best_78 : decode cX9_best 78 = .ok (.istore_n 3, 1) := by decide +kernel
theorem dX9_best_79 : decode cX9_best 79 = .ok (.iload 4, 2) := by decide +kernel
theorem dX9_best_81 : decode cX9_best 81 = .ok (.istore_n 2, 1) := by decide +kernel
theorem dX9_best_82 : decode cX9_best 82 = .ok (.iload 4, 2) := by decide +kernel
theorem dX9_best_84 : decode cX9_best 84 = .ok (.aload_n 0, 1) := by decide +kernel
theorem dX9_best_85 : decode cX9_best 85 = .ok (.getfield 19, 3) := by decide +kernel
theorem dX9_best_88 : decode cX9_best 88 = .ok (.getfield 84, 3) := by decide +kernel
theorem dX9_best_91 : decode cX9_best 91 = .ok (.invokestatic 234, 3) := by decide +kernel
theorem dX9_best_94 : decode cX9_best 94 = .ok (.istore 4, 2) := by decide +kernel
theorem dX9_best_96 : decode cX9_best 96 = .ok (.iinc 5 1, 3) := by decide +kernel
theorem dX9_best_99 : decode cX9_best 99 = .ok (.goto (-53), 3) := by decide +kernel
theorem dX9_best_102 : decode cX9_best 102 = .ok (.iload_n 1, 1) := by decide +kernel
theorem dX9_best_103 : decode cX9_best 103 = .ok (.ifCond .ge 11, 3) := by decide +kernel
theorem dX9_best_106 : decode cX9_best 106 = .ok (.iload_n 3, 1) := by decide +kernel
theorem dX9_best_107 : decode cX9_best 107 = .ok (.sipush 10000, 3) := by decide +kernel
theorem dX9_best_110 : decode cX9_best 110 = .ok (.iadd, 1) := by decide +kernel
theorem dX9_best_111 : decode cX9_best 111 = .ok (.goto 8, 3) := by decide +kernel
theorem dX9_best_114 : decode cX9_best 114 = .ok (.iload_n 2, 1) := by decide +kernel
theorem dX9_best_115 : decode cX9_best 115 = .ok (.iload_n 1, 1) := by decide +kernel
theorem dX9_best_116 : decode cX9_best 116 = .ok (.invokestatic 140, 3) := by decide +kernel
theorem dX9_best_119 : decode cX9_best 119 = .ok (.ireturn, 1) := by decide +kernel
theorem dX9_drawGraph_0 : decode cX9_drawGraph 0 = .ok (.aload_n 0, 1) := by decide +kernel
theorem dX9_drawGraph_1 : decode cX9_drawGraph 1 = .ok (.getfield 55, 3) := by decide +kernel
theorem dX9_drawGraph_4 : decode cX9_drawGraph 4 = .ok (.ifCond .ne 19, 3) := by decide +kernel
theorem dX9_drawGraph_7 : decode cX9_drawGraph 7 = .ok (.aload_n 0, 1) := by decide +kernel
theorem dX9_drawGraph_8 : decode cX9_drawGraph 8 = .ok (.getfield 51, 3) := by decide +kernel
theorem dX9_drawGraph_11 : decode cX9_drawGraph 11 = .ok (.aload_n 0, 1) := by decide +kernel
theorem dX9_drawGraph_12 : decode cX9_drawGraph 12 = .ok (.getfield 19, 3) := by decide +kernel
theorem dX9_drawGraph_15 : decode cX9_drawGraph 15 = .ok (.invokevirtual 237, 3) := by decide +kernel
theorem dX9_drawGraph_18 : decode cX9_drawGraph 18 = .ok (.aload_n 0, 1) := by decide +kernel
theorem dX9_drawGraph_19 : decode cX9_drawGraph 19 = .ok (.iconst 1, 1) := by decide +kernel
theorem dX9_drawGraph_20 : decode cX9_drawGraph 20 = .ok (.putfield 55, 3) := by decide +kernel
theorem dX9_drawGraph_23 : decode cX9_drawGraph 23 = .ok (.return_, 1) := by decide +kernel
theorem dX9_stateWith_0 : decode cX9_stateWith 0 = .ok (.aload_n 0, 1) := by decide +kernel
theorem dX9_stateWith_1 : decode cX9_stateWith 1 = .ok (.getfield 62, 3) := by decide +kernel
theorem dX9_stateWith_4 : decode cX9_stateWith 4 = .ok (.aload_n 0, 1) := by decide +kernel
theorem dX9_stateWith_5 : decode cX9_stateWith 5 = .ok (.getfield 51, 3) := by decide +kernel
theorem dX9_stateWith_8 : decode cX9_stateWith 8 = .ok (.aload_n 0, 1) := by decide +kernel
theorem dX9_stateWith_9 : decode cX9_stateWith 9 = .ok (.getfield 51, 3) := by decide +kernel
theorem dX9_stateWith_12 : decode cX9_stateWith 12 = .ok (.aload_n 0, 1) := by decide +kernel
theorem dX9_stateWith_13 : decode cX9_stateWith 13 = .ok (.getfield 94, 3) := by decide +kernel
theorem dX9_stateWith_16 : decode cX9_stateWith 16 = .ok (.invokevirtual 206, 3) := by decide +kernel
theorem dX9_stateWith_19 : decode cX9_stateWith 19 = .ok (.iload_n 3, 1) := by decide +kernel
theorem dX9_stateWith_20 : decode cX9_stateWith 20 = .ok (.invokevirtual 216, 3) := by decide +kernel
theorem dX9_stateWith_23 : decode cX9_stateWith 23 = .ok (.aload_n 0, 1) := by decide +kernel
theorem dX9_stateWith_24 : decode cX9_stateWith 24 = .ok (.getfield 62, 3) := by decide +kernel
theorem dX9_stateWith_27 : decode cX9_stateWith 27 = .ok (.aload_n 0, 1) := by decide +kernel
theorem dX9_stateWith_28 : decode cX9_stateWith 28 = .ok (.getfield 51, 3) := by decide +kernel
theorem dX9_stateWith_31 : decode cX9_stateWith 31 = .ok (.iload_n 1, 1) := by decide +kernel
theorem dX9_stateWith_32 : decode cX9_stateWith 32 = .ok (.iload_n 2, 1) := by decide +kernel
theorem dX9_stateWith_33 : decode cX9_stateWith 33 = .ok (.invokevirtual 241, 3) := by decide +kernel
theorem dX9_stateWith_36 : decode cX9_stateWith 36 = .ok (.ireturn, 1) := by decide +kernel
theorem dX9_answerOfWay_0 : decode cX9_answerOfWay 0 = .ok (.aload_n 0, 1) := by decide +kernel
theorem dX9_answerOfWay_1 : decode cX9_answerOfWay 1 = .ok (.getfield 62, 3) := by decide +kernel
theorem dX9_answerOfWay_4 : decode cX9_answerOfWay 4 = .ok (.iload_n 1, 1) := by decide +kernel
theorem dX9_answerOfWay_5 : decode cX9_answerOfWay 5 = .ok (.invokevirtual 245, 3) := by decide +kernel
theorem dX9_answerOfWay_8 : decode cX9_answerOfWay 8 = .ok (.istore_n 3, 1) := by decide +kernel
theorem dX9_answerOfWay_9 : decode cX9_answerOfWay 9 = .ok (.iload_n 2, 1) := by decide +kernel
theorem dX9_answerOfWay_10 : decode cX9_answerOfWay 10 = .ok (.ifCond .ne 5, 3) := by decide +kernel
theorem dX9_answerOfWay_13 : decode cX9_answerOfWay 13 = .ok (.iload_n 3, 1) := by decide +kernel
theorem dX9_answerOfWay_14 : decode cX9_answerOfWay 14 = .ok (.ireturn, 1) := by decide +kernel
theorem dX9_answerOfWay_15 : decode cX9_answerOfWay 15 = .ok (.iload_n 3, 1) := by decide +kernel
theorem dX9_answerOfWay_16 : decode cX9_answerOfWay 16 = .ok (.ifCond .ne 8, 3) := by decide +kernel
theorem dX9_answerOfWay_19 : decode cX9_answerOfWay 19 = .ok (.bipush (-4), 2) := by decide +kernel
theorem dX9_answerOfWay_21 : decode cX9_answerOfWay 21 = .ok (.goto 11, 3) := by decide +kernel
theorem dX9_answerOfWay_24 : decode cX9_answerOfWay 24 = .ok (.aload_n 0, 1) := by decide +kernel
theorem dX9_answerOfWay_25 : decode cX9_answerOfWay 25 = .ok (.getfield 62, 3) := by decide +kernel
theorem dX9_answerOfWay_28 : decode cX9_answerOfWay 28 = .ok (.iload_n 1, 1) := by decide +kernel
theorem dX9_answerOfWay_29 : decode cX9_answerOfWay 29 = .ok (.invokevirtual 248, 3) := by decide +kernel
theorem dX9_answerOfWay_32 : decode cX9_answerOfWay 32 = .ok (.ireturn, 1) := by decide +kernel
theorem dX9_price_0 : decode cX9_price 0 = .ok (.aload_n 0, 1) := by decide +kernel
theorem dX9_price_1 : decode cX9_price 1 = .ok (.getfield 19, 3) := by decide +kernel
theorem dX9_price_4 : decode cX9_price 4 = .ok (.iload_n 1, 1) := by decide +kernel
theorem dX9_price_5 : decode cX9_price 5 = .ok (.invokevirtual 146, 3) := by decide +kernel
theorem dX9_price_8 : decode cX9_price 8 = .ok (.ifCond .eq 10, 3) := by decide +kernel
theorem dX9_price_11 : decode cX9_price 11 = .ok (.iload_n 2, 1) := by decide +kernel
theorem dX9_price_12 : decode cX9_price 12 = .ok (.invokestatic 213, 3) := by decide +kernel
theorem dX9_price_15 : decode cX9_price 15 = .ok (.ifCond .ne 5, 3) := by decide +kernel
theorem dX9_price_18 : decode cX9_price 18 = .ok (.iconst (-1), 1) := by decide +kernel
theorem dX9_price_19 : decode cX9_price 19 = .ok (.ireturn, 1) := by decide +kernel
theorem dX9_price_20 : decode cX9_price 20 = .ok (.aload_n 0, 1) := by decide +kernel
theorem dX9_price_21 : decode cX9_price 21 = .ok (.iload_n 1, 1) := by decide +kernel
theorem dX9_price_22 : decode cX9_price 22 = .ok (.iload_n 2, 1) := by decide +kernel
theorem dX9_price_23 : decode cX9_price 23 = .ok (.invokevirtual 251, 3) := by decide +kernel
theorem dX9_price_26 : decode cX9_price 26 = .ok (.istore_n 3, 1) := by decide +kernel
theorem dX9_price_27 : decode cX9_price 27 = .ok (.iload_n 3, 1) := by decide +kernel
theorem dX9_price_28 : decode cX9_price 28 = .ok (.ifCond .ge 8, 3) := by decide +kernel
theorem dX9_price_31 : decode cX9_price 31 = .ok (.bipush (-4), 2) := by decide +kernel
theorem dX9_price_33 : decode cX9_price 33 = .ok (.goto 4, 3) := by decide +kernel
theorem dX9_price_36 : decode cX9_price 36 = .ok (.iload_n 3, 1) := by decide +kernel
theorem dX9_price_37 : decode cX9_price 37 = .ok (.ireturn, 1) := by decide +kernel
theorem dX9_deal_0 : decode cX9_deal 0 = .ok (.aload_n 0, 1) := by decide +kernel
theorem dX9_deal_1 : decode cX9_deal 1 = .ok (.getfield 19, 3) := by decide +kernel
theorem dX9_deal_4 : decode cX9_deal 4 = .ok (.iload_n 1, 1) := by decide +kernel
theorem dX9_deal_5 : decode cX9_deal 5 = .ok (.invokevirtual 146, 3) := by decide +kernel
theorem dX9_deal_8 : decode cX9_deal 8 = .ok (.ifCond .ne 5, 3) := by decide +kernel
theorem dX9_deal_11 : decode cX9_deal 11 = .ok (.iconst (-1), 1) := by decide +kernel
theorem dX9_deal_12 : decode cX9_deal 12 = .ok (.ireturn, 1) := by decide +kernel
theorem dX9_deal_13 : decode cX9_deal 13 = .ok (.aload_n 0, 1) := by decide +kernel
theorem dX9_deal_14 : decode cX9_deal 14 = .ok (.iload_n 1, 1) := by decide +kernel
theorem dX9_deal_15 : decode cX9_deal 15 = .ok (.iconst 0, 1) := by decide +kernel
theorem dX9_deal_16 : decode cX9_deal 16 = .ok (.invokevirtual 254, 3) := by decide +kernel
theorem dX9_deal_19 : decode cX9_deal 19 = .ok (.ifCond .ne 12, 3) := by decide +kernel
theorem dX9_deal_22 : decode cX9_deal 22 = .ok (.aload_n 0, 1) := by decide +kernel
theorem dX9_deal_23 : decode cX9_deal 23 = .ok (.iload_n 1, 1) := by decide +kernel
theorem dX9_deal_24 : decode cX9_deal 24 = .ok (.iconst 1, 1) := by decide +kernel
theorem dX9_deal_25 : decode cX9_deal 25 = .ok (.invokevirtual 254, 3) := by decide +kernel
theorem dX9_deal_28 : decode cX9_deal 28 = .ok (.ifCond .eq 7, 3) := by decide +kernel
theorem dX9_deal_31 : decode cX9_deal 31 = .ok (.iconst 1, 1) := by decide +kernel
theorem dX9_deal_32 : decode cX9_deal 32 = .ok (.goto 4, 3) := by decide +kernel
theorem dX9_deal_35 : decode cX9_deal 35 = .ok (.iconst 0, 1) := by decide +kernel
theorem dX9_deal_36 : decode cX9_deal 36 = .ok (.ireturn, 1) := by decide +kernel
theorem dX9_priceOf_0 : decode cX9_priceOf 0 = .ok (.iload_n 2, 1) := by decide +kernel
theorem dX9_priceOf_1 : decode cX9_priceOf 1 = .ok (.ifCond .ne 7, 3) := by decide +kernel
theorem dX9_priceOf_4 : decode cX9_priceOf 4 = .ok (.iload_n 1, 1) := by decide +kernel
theorem dX9_priceOf_5 : decode cX9_priceOf 5 = .ok (.goto 11, 3) := by decide +kernel
theorem dX9_priceOf_8 : decode cX9_priceOf 8 = .ok (.aload_n 0, 1) := by decide +kernel
theorem dX9_priceOf_9 : decode cX9_priceOf 9 = .ok (.getfield 19, 3) := by decide +kernel
theorem dX9_priceOf_12 : decode cX9_priceOf 12 = .ok (.iload_n 1, 1) := by decide +kernel
theorem dX9_priceOf_13 : decode cX9_priceOf 13 = .ok (.invokevirtual 257, 3) := by decide +kernel
theorem dX9_priceOf_16 : decode cX9_priceOf 16 = .ok (.istore_n 3, 1) := by decide +kernel
theorem dX9_priceOf_17 : decode cX9_priceOf 17 = .ok (.aload_n 0, 1) := by decide +kernel
theorem dX9_priceOf_18 : decode cX9_priceOf 18 = .ok (.getfield 19, 3) := by decide +kernel
theorem dX9_priceOf_21 : decode cX9_priceOf 21 = .ok (.getfield 127, 3) := by decide +kernel
theorem dX9_priceOf_24 : decode cX9_priceOf 24 = .ok (.aload_n 0, 1) := by decide +kernel
theorem dX9_priceOf_25 : decode cX9_priceOf 25 = .ok (.getfield 94, 3) := by decide +kernel
theorem dX9_priceOf_28 : decode cX9_priceOf 28 = .ok (.iload_n 3, 1) := by decide +kernel
theorem dX9_priceOf_29 : decode cX9_priceOf 29 = .ok (.invokestatic 140, 3) := by decide +kernel
theorem dX9_priceOf_32 : decode cX9_priceOf 32 = .ok (.iaload, 1) := by decide +kernel
theorem dX9_priceOf_33 : decode cX9_priceOf 33 = .ok (.aload_n 0, 1) := by decide +kernel
theorem dX9_priceOf_34 : decode cX9_priceOf 34 = .ok (.iload_n 1, 1) := by decide +kernel
theorem dX9_priceOf_35 : decode cX9_priceOf 35 = .ok (.iload_n 2, 1) := by decide +kernel
theorem dX9_priceOf_36 : decode cX9_priceOf 36 = .ok (.invokevirtual 260, 3) := by decide +kernel
theorem dX9_priceOf_39 : decode cX9_priceOf 39 = .ok (.invokestatic 263, 3) := by decide +kernel
theorem dX9_priceOf_42 : decode cX9_priceOf 42 = .ok (.ireturn, 1) := by decide +kernel
theorem dX9_gainOf_0 : decode cX9_gainOf 0 = .ok (.aload_n 0, 1) := by decide +kernel
theorem dX9_gainOf_1 : decode cX9_gainOf 1 = .ok (.getfield 19, 3) := by decide +kernel
theorem dX9_gainOf_4 : decode cX9_gainOf 4 = .ok (.iload_n 1, 1) := by decide +kernel
theorem dX9_gainOf_5 : decode cX9_gainOf 5 = .ok (.invokevirtual 257, 3) := by decide +kernel
theorem dX9_gainOf_8 : decode cX9_gainOf 8 = .ok (.istore_n 3, 1) := by decide +kernel
theorem dX9_gainOf_9 : decode cX9_gainOf 9 = .ok (.iload_n 2, 1) := by decide +kernel
theorem dX9_gainOf_10 : decode cX9_gainOf 10 = .ok (.ifCond .ne 7, 3) := by decide +kernel
theorem dX9_gainOf_13 : decode cX9_gainOf 13 = .ok (.iload_n 1, 1) := by decide +kernel
theorem dX9_gainOf_14 : decode cX9_gainOf 14 = .ok (.goto 4, 3) := by decide +kernel
theorem dX9_gainOf_17 : decode cX9_gainOf 17 = .ok (.iload_n 3, 1) := by decide +kernel
theorem dX9_gainOf_18 : decode cX9_gainOf 18 = .ok (.istore 4, 2) := by decide +kernel
theorem dX9_gainOf_20 : decode cX9_gainOf 20 = .ok (.iload_n 2, 1) := by decide +kernel
theorem dX9_gainOf_21 : decode cX9_gainOf 21 = .ok (.ifCond .ne 7, 3) := by decide +kernel
theorem dX9_gainOf_24 : decode cX9_gainOf 24 = .ok (.iload_n 3, 1) := by decide +kernel
theorem dX9_gainOf_25 : decode cX9_gainOf 25 = .ok (.goto 4, 3) := by decide +kernel
theorem dX9_gainOf_28 : decode cX9_gainOf 28 = .ok (.iload_n 1, 1) := by decide +kernel
theorem dX9_gainOf_29 : decode cX9_gainOf 29 = .ok (.istore 5, 2) := by decide +kernel
theorem dX9_gainOf_31 : decode cX9_gainOf 31 = .ok (.aload_n 0, 1) := by decide +kernel
theorem dX9_gainOf_32 : decode cX9_gainOf 32 = .ok (.getfield 19, 3) := by decide +kernel
theorem dX9_gainOf_35 : decode cX9_gainOf 35 = .ok (.aload_n 0, 1) := by decide +kernel
theorem dX9_gainOf_36 : decode cX9_gainOf 36 = .ok (.getfield 19, 3) := by decide +kernel
theorem dX9_gainOf_39 : decode cX9_gainOf 39 = .ok (.aload_n 0, 1) := by decide +kernel
theorem dX9_gainOf_40 : decode cX9_gainOf 40 = .ok (.getfield 94, 3) := by decide +kernel
theorem dX9_gainOf_43 : decode cX9_gainOf 43 = .ok (.iload_n 1, 1) := by decide +kernel
theorem dX9_gainOf_44 : decode cX9_gainOf 44 = .ok (.invokevirtual 156, 3) := by decide +kernel
theorem dX9_gainOf_47 : decode cX9_gainOf 47 = .ok (.iload 5, 2) := by decide +kernel
theorem dX9_gainOf_49 : decode cX9_gainOf 49 = .ok (.invokevirtual 266, 3) := by decide +kernel
theorem dX9_gainOf_52 : decode cX9_gainOf 52 = .ok (.aload_n 0, 1) := by decide +kernel
theorem dX9_gainOf_53 : decode cX9_gainOf 53 = .ok (.getfield 19, 3) := by decide +kernel
theorem dX9_gainOf_56 : decode cX9_gainOf 56 = .ok (.aload_n 0, 1) := by decide +kernel
theorem dX9_gainOf_57 : decode cX9_gainOf 57 = .ok (.getfield 94, 3) := by decide +kernel
theorem dX9_gainOf_60 : decode cX9_gainOf 60 = .ok (.iload 4, 2) := by decide +kernel
theorem dX9_gainOf_62 : decode cX9_gainOf 62 = .ok (.invokevirtual 266, 3) := by decide +kernel
theorem dX9_gainOf_65 : decode cX9_gainOf 65 = .ok (.isub, 1) := by decide +kernel
theorem dX9_gainOf_66 : decode cX9_gainOf 66 = .ok (.ireturn, 1) := by decide +kernel
theorem dX9_pays_0 : decode cX9_pays 0 = .ok (.aload_n 0, 1) := by decide +kernel
theorem dX9_pays_1 : decode cX9_pays 1 = .ok (.iload_n 1, 1) := by decide +kernel
theorem dX9_pays_2 : decode cX9_pays 2 = .ok (.iconst 1, 1) := by decide +kernel
theorem dX9_pays_3 : decode cX9_pays 3 = .ok (.iload_n 2, 1) := by decide +kernel
theorem dX9_pays_4 : decode cX9_pays 4 = .ok (.isub, 1) := by decide +kernel
theorem dX9_pays_5 : decode cX9_pays 5 = .ok (.invokevirtual 251, 3) := by decide +kernel
theorem dX9_pays_8 : decode cX9_pays 8 = .ok (.istore_n 3, 1) := by decide +kernel
theorem dX9_pays_9 : decode cX9_pays 9 = .ok (.aload_n 0, 1) := by decide +kernel
theorem dX9_pays_10 : decode cX9_pays 10 = .ok (.iload_n 1, 1) := by decide +kernel
theorem dX9_pays_11 : decode cX9_pays 11 = .ok (.iload_n 2, 1) := by decide +kernel
theorem dX9_pays_12 : decode cX9_pays 12 = .ok (.invokevirtual 251, 3) := by decide +kernel
theorem dX9_pays_15 : decode cX9_pays 15 = .ok (.ifCond .ne 23, 3) := by decide +kernel
theorem dX9_pays_18 : decode cX9_pays 18 = .ok (.iload_n 3, 1) := by decide +kernel
theorem dX9_pays_19 : decode cX9_pays 19 = .ok (.ifCond .lt 19, 3) := by decide +kernel
theorem dX9_pays_22 : decode cX9_pays 22 = .ok (.aload_n 0, 1) := by decide +kernel
theorem dX9_pays_23 : decode cX9_pays 23 = .ok (.iload_n 1, 1) := by decide +kernel
theorem dX9_pays_24 : decode cX9_pays 24 = .ok (.iload_n 2, 1) := by decide +kernel
theorem dX9_pays_25 : decode cX9_pays 25 = .ok (.invokevirtual 260, 3) := by decide +kernel
theorem dX9_pays_28 : decode cX9_pays 28 = .ok (.iload_n 3, 1) := by decide +kernel
theorem dX9_pays_29 : decode cX9_pays 29 = .ok (.iconst 1, 1) := by decide +kernel
theorem dX9_pays_30 : decode cX9_pays 30 = .ok (.iadd, 1) := by decide +kernel
theorem dX9_pays_31 : decode cX9_pays 31 = .ok (.if_icmp .lt 7, 3) := by decide +kernel
theorem dX9_pays_34 : decode cX9_pays 34 = .ok (.iconst 1, 1) := by decide +kernel
theorem dX9_pays_35 : decode cX9_pays 35 = .ok (.goto 4, 3) := by decide +kernel
theorem dX9_pays_38 : decode cX9_pays 38 = .ok (.iconst 0, 1) := by decide +kernel
theorem dX9_pays_39 : decode cX9_pays 39 = .ok (.ireturn, 1) := by decide +kernel
theorem dX9_lie_0 : decode cX9_lie 0 = .ok (.aload_n 0, 1) := by decide +kernel
theorem dX9_lie_1 : decode cX9_lie 1 = .ok (.getfield 19, 3) := by decide +kernel
theorem dX9_lie_4 : decode cX9_lie 4 = .ok (.iload_n 1, 1) := by decide +kernel
theorem dX9_lie_5 : decode cX9_lie 5 = .ok (.invokevirtual 116, 3) := by decide +kernel
theorem dX9_lie_8 : decode cX9_lie 8 = .ok (.ifCond .eq 10, 3) := by decide +kernel
theorem dX9_lie_11 : decode cX9_lie 11 = .ok (.iload_n 2, 1) := by decide +kernel
theorem dX9_lie_12 : decode cX9_lie 12 = .ok (.invokestatic 213, 3) := by decide +kernel
theorem dX9_lie_15 : decode cX9_lie 15 = .ok (.ifCond .ne 5, 3) := by decide +kernel
theorem dX9_lie_18 : decode cX9_lie 18 = .ok (.iconst (-1), 1) := by decide +kernel
theorem dX9_lie_19 : decode cX9_lie 19 = .ok (.ireturn, 1) := by decide +kernel
theorem dX9_lie_20 : decode cX9_lie 20 = .ok (.aload_n 0, 1) := by decide +kernel
theorem dX9_lie_21 : decode cX9_lie 21 = .ok (.iload_n 1, 1) := by decide +kernel
theorem dX9_lie_22 : decode cX9_lie 22 = .ok (.aload_n 0, 1) := by decide +kernel
theorem dX9_lie_23 : decode cX9_lie 23 = .ok (.getfield 19, 3) := by decide +kernel
theorem dX9_lie_26 : decode cX9_lie 26 = .ok (.getfield 120, 3) := by decide +kernel
theorem dX9_lie_29 : decode cX9_lie 29 = .ok (.iload_n 1, 1) := by decide +kernel
theorem dX9_lie_30 : decode cX9_lie 30 = .ok (.iaload, 1) := by decide +kernel
theorem dX9_lie_31 : decode cX9_lie 31 = .ok (.invokevirtual 269, 3) := by decide +kernel
theorem dX9_lie_34 : decode cX9_lie 34 = .ok (.istore_n 3, 1) := by decide +kernel
theorem dX9_lie_35 : decode cX9_lie 35 = .ok (.iload_n 3, 1) := by decide +kernel
theorem dX9_lie_36 : decode cX9_lie 36 = .ok (.ldc_w 272, 3) := by decide +kernel
theorem dX9_lie_39 : decode cX9_lie 39 = .ok (.if_icmp .ne 6, 3) := by decide +kernel
theorem dX9_lie_42 : decode cX9_lie 42 = .ok (.bipush (-4), 2) := by decide +kernel
theorem dX9_lie_44 : decode cX9_lie 44 = .ok (.ireturn, 1) := by decide +kernel
theorem dX9_lie_45 : decode cX9_lie 45 = .ok (.ldc_w 272, 3) := by decide +kernel
theorem dX9_lie_48 : decode cX9_lie 48 = .ok (.istore 4, 2) := by decide +kernel
theorem dX9_lie_50 : decode cX9_lie 50 = .ok (.bipush (-4), 2) := by decide +kernel
theorem dX9_lie_52 : decode cX9_lie 52 = .ok (.istore 5, 2) := by decide +kernel
theorem dX9_lie_54 : decode cX9_lie 54 = .ok (.iconst 0, 1) := by decide +kernel
theorem dX9_lie_55 : decode cX9_lie 55 = .ok (.istore 6, 2) := by decide +kernel
theorem dX9_lie_57 : decode cX9_lie 57 = .ok (.iload 6, 2) := by decide +kernel
theorem dX9_lie_59 : decode cX9_lie 59 = .ok (.aload_n 0, 1) := by decide +kernel
theorem dX9_lie_60 : decode cX9_lie 60 = .ok (.getfield 19, 3) := by decide +kernel
theorem dX9_lie_63 : decode cX9_lie 63 = .ok (.getfield 84, 3) := by decide +kernel
theorem dX9_lie_66 : decode cX9_lie 66 = .ok (.if_icmp .ge 33, 3) := by decide +kernel
theorem dX9_lie_69 : decode cX9_lie 69 = .ok (.aload_n 0, 1) := by decide +kernel
theorem dX9_lie_70 : decode cX9_lie 70 = .ok (.iload_n 1, 1) := by decide +kernel
theorem dX9_lie_71 : decode cX9_lie 71 = .ok (.iload 6, 2) := by decide +kernel
theorem dX9_lie_73 : decode cX9_lie 73 = .ok (.invokevirtual 269, 3) := by decide +kernel
theorem dX9_lie_76 : decode cX9_lie 76 = .ok (.istore 7, 2) := by decide +kernel
theorem dX9_lie_78 : decode cX9_lie 78 = .ok (.iload 7, 2) := by decide +kernel
theorem dX9_lie_80 : decode cX9_lie 80 = .ok (.iload 4, 2) := by decide +kernel
theorem dX9_lie_82 : decode cX9_lie 82 = .ok (.if_icmp .le 11, 3) := by decide +kernel
theorem dX9_lie_85 : decode cX9_lie 85 = .ok (.iload 7, 2) := by decide +kernel
theorem dX9_lie_87 : decode cX9_lie 87 = .ok (.istore 4, 2) := by decide +kernel
theorem dX9_lie_89 : decode cX9_lie 89 = .ok (.iload 6, 2) := by decide +kernel
theorem dX9_lie_91 : decode cX9_lie 91 = .ok (.istore 5, 2) := by decide +kernel
theorem dX9_lie_93 : decode cX9_lie 93 = .ok (.iinc 6 1, 3) := by decide +kernel
theorem dX9_lie_96 : decode cX9_lie 96 = .ok (.goto (-39), 3) := by decide +kernel
theorem dX9_lie_99 : decode cX9_lie 99 = .ok (.iload_n 2, 1) := by decide +kernel
theorem dX9_lie_100 : decode cX9_lie 100 = .ok (.ifCond .ne 8, 3) := by decide +kernel
theorem dX9_lie_103 : decode cX9_lie 103 = .ok (.iload 5, 2) := by decide +kernel
theorem dX9_lie_105 : decode cX9_lie 105 = .ok (.goto 7, 3) := by decide +kernel
theorem dX9_lie_108 : decode cX9_lie 108 = .ok (.iload 4, 2) := by decide +kernel
theorem dX9_lie_110 : decode cX9_lie 110 = .ok (.iload_n 3, 1) := by decide +kernel
theorem dX9_lie_111 : decode cX9_lie 111 = .ok (.isub, 1) := by decide +kernel
theorem dX9_lie_112 : decode cX9_lie 112 = .ok (.ireturn, 1) := by decide +kernel
theorem dX9_worthBySaying_0 : decode cX9_worthBySaying 0 = .ok (.aload_n 0, 1) := by decide +kernel
theorem dX9_worthBySaying_1 : decode cX9_worthBySaying 1 = .ok (.getfield 19, 3) := by decide +kernel
theorem dX9_worthBySaying_4 : decode cX9_worthBySaying 4 = .ok (.getfield 120, 3) := by decide +kernel
theorem dX9_worthBySaying_7 : decode cX9_worthBySaying 7 = .ok (.iload_n 1, 1) := by decide +kernel
theorem dX9_worthBySaying_8 : decode cX9_worthBySaying 8 = .ok (.iaload, 1) := by decide +kernel
theorem dX9_worthBySaying_9 : decode cX9_worthBySaying 9 = .ok (.istore_n 3, 1) := by decide +kernel
theorem dX9_worthBySaying_10 : decode cX9_worthBySaying 10 = .ok (.aload_n 0, 1) := by decide +kernel
theorem dX9_worthBySaying_11 : decode cX9_worthBySaying 11 = .ok (.getfield 19, 3) := by decide +kernel
theorem dX9_worthBySaying_14 : decode cX9_worthBySaying 14 = .ok (.getfield 120, 3) := by decide +kernel
theorem dX9_worthBySaying_17 : decode cX9_worthBySaying 17 = .ok (.iload_n 1, 1) := by decide +kernel
theorem dX9_worthBySaying_18 : decode cX9_worthBySaying 18 = .ok (.iload_n 2, 1) := by decide +kernel
theorem dX9_worthBySaying_19 : decode cX9_worthBySaying 19 = .ok (.iastore, 1) := by decide +kernel
theorem dX9_worthBySaying_20 : decode cX9_worthBySaying 20 = .ok (.aload_n 0, 1) := by decide +kernel
theorem dX9_worthBySaying_21 : decode cX9_worthBySaying 21 = .ok (.getfield 76, 3) := by decide +kernel
theorem dX9_worthBySaying_24 : decode cX9_worthBySaying 24 = .ok (.aload_n 0, 1) := by decide +kernel
theorem dX9_worthBySaying_25 : decode cX9_worthBySaying 25 = .ok (.getfield 19, 3) := by decide +kernel
theorem dX9_worthBySaying_28 : decode cX9_worthBySaying 28 = .ok (.aload_n 0, 1) := by decide +kernel
theorem dX9_worthBySaying_29 : decode cX9_worthBySaying 29 = .ok (.getfield 94, 3) := by decide +kernel
theorem dX9_worthBySaying_32 : decode cX9_worthBySaying 32 = .ok (.invokevirtual 196, 3) := by decide +kernel
theorem dX9_worthBySaying_35 : decode cX9_worthBySaying 35 = .ok (.istore 4, 2) := by decide +kernel
theorem dX9_worthBySaying_37 : decode cX9_worthBySaying 37 = .ok (.aload_n 0, 1) := by decide +kernel
theorem dX9_worthBySaying_38 : decode cX9_worthBySaying 38 = .ok (.getfield 19, 3) := by decide +kernel
theorem dX9_worthBySaying_41 : decode cX9_worthBySaying 41 = .ok (.getfield 120, 3) := by decide +kernel
theorem dX9_worthBySaying_44 : decode cX9_worthBySaying 44 = .ok (.iload_n 1, 1) := by decide +kernel
theorem dX9_worthBySaying_45 : decode cX9_worthBySaying 45 = .ok (.iload_n 3, 1) := by decide +kernel
theorem dX9_worthBySaying_46 : decode cX9_worthBySaying 46 = .ok (.iastore, 1) := by decide +kernel
theorem dX9_worthBySaying_47 : decode cX9_worthBySaying 47 = .ok (.iload 4, 2) := by decide +kernel
theorem dX9_worthBySaying_49 : decode cX9_worthBySaying 49 = .ok (.ifCond .eq 21, 3) := by decide +kernel
theorem dX9_worthBySaying_52 : decode cX9_worthBySaying 52 = .ok (.aload_n 0, 1) := by decide +kernel
theorem dX9_worthBySaying_53 : decode cX9_worthBySaying 53 = .ok (.getfield 19, 3) := by decide +kernel
theorem dX9_worthBySaying_56 : decode cX9_worthBySaying 56 = .ok (.aload_n 0, 1) := by decide +kernel
theorem dX9_worthBySaying_57 : decode cX9_worthBySaying 57 = .ok (.getfield 76, 3) := by decide +kernel
theorem dX9_worthBySaying_60 : decode cX9_worthBySaying 60 = .ok (.getfield 203, 3) := by decide +kernel
theorem dX9_worthBySaying_63 : decode cX9_worthBySaying 63 = .ok (.iload_n 1, 1) := by decide +kernel
theorem dX9_worthBySaying_64 : decode cX9_worthBySaying 64 = .ok (.invokevirtual 137, 3) := by decide +kernel
theorem dX9_worthBySaying_67 : decode cX9_worthBySaying 67 = .ok (.goto 6, 3) := by decide +kernel
theorem dX9_worthBySaying_70 : decode cX9_worthBySaying 70 = .ok (.ldc_w 272, 3) := by decide +kernel
theorem dX9_worthBySaying_73 : decode cX9_worthBySaying 73 = .ok (.ireturn, 1) := by decide +kernel
theorem dX9_seen_0 : decode cX9_seen 0 = .ok (.aload_n 0, 1) := by decide +kernel
theorem dX9_seen_1 : decode cX9_seen 1 = .ok (.getfield 19, 3) := by decide +kernel
theorem dX9_seen_4 : decode cX9_seen 4 = .ok (.iload_n 1, 1) := by decide +kernel
theorem dX9_seen_5 : decode cX9_seen 5 = .ok (.invokevirtual 116, 3) := by decide +kernel
theorem dX9_seen_8 : decode cX9_seen 8 = .ok (.ifCond .eq 30, 3) := by decide +kernel
theorem dX9_seen_11 : decode cX9_seen 11 = .ok (.aload_n 0, 1) := by decide +kernel
theorem dX9_seen_12 : decode cX9_seen 12 = .ok (.getfield 19, 3) := by decide +kernel
theorem dX9_seen_15 : decode cX9_seen 15 = .ok (.iload_n 2, 1) := by decide +kernel
theorem dX9_seen_16 : decode cX9_seen 16 = .ok (.invokevirtual 116, 3) := by decide +kernel
theorem dX9_seen_19 : decode cX9_seen 19 = .ok (.ifCond .eq 19, 3) := by decide +kernel
theorem dX9_seen_22 : decode cX9_seen 22 = .ok (.aload_n 0, 1) := by decide +kernel
theorem dX9_seen_23 : decode cX9_seen 23 = .ok (.getfield 19, 3) := by decide +kernel
theorem dX9_seen_26 : decode cX9_seen 26 = .ok (.iload_n 3, 1) := by decide +kernel
theorem dX9_seen_27 : decode cX9_seen 27 = .ok (.invokevirtual 116, 3) := by decide +kernel
theorem dX9_seen_30 : decode cX9_seen 30 = .ok (.ifCond .eq 8, 3) := by decide +kernel
theorem dX9_seen_33 : decode cX9_seen 33 = .ok (.iload_n 2, 1) := by decide +kernel
theorem dX9_seen_34 : decode cX9_seen 34 = .ok (.iload_n 3, 1) := by decide +kernel
theorem dX9_seen_35 : decode cX9_seen 35 = .ok (.if_icmp .ne 5, 3) := by decide +kernel
theorem dX9_seen_38 : decode cX9_seen 38 = .ok (.iconst (-1), 1) := by decide +kernel
theorem dX9_seen_39 : decode cX9_seen 39 = .ok (.ireturn, 1) := by decide +kernel
theorem dX9_seen_40 : decode cX9_seen 40 = .ok (.aload_n 0, 1) := by decide +kernel
theorem dX9_seen_41 : decode cX9_seen 41 = .ok (.getfield 44, 3) := by decide +kernel
theorem dX9_seen_44 : decode cX9_seen 44 = .ok (.iload_n 1, 1) := by decide +kernel
theorem dX9_seen_45 : decode cX9_seen 45 = .ok (.iload_n 2, 1) := by decide +kernel
theorem dX9_seen_46 : decode cX9_seen 46 = .ok (.iload_n 3, 1) := by decide +kernel
theorem dX9_seen_47 : decode cX9_seen 47 = .ok (.iload 4, 2) := by decide +kernel
theorem dX9_seen_49 : decode cX9_seen 49 = .ok (.invokevirtual 273, 3) := by decide +kernel
theorem dX9_seen_52 : decode cX9_seen 52 = .ok (.ifCond .eq 13, 3) := by decide +kernel
theorem dX9_seen_55 : decode cX9_seen 55 = .ok (.aload_n 0, 1) := by decide +kernel
theorem dX9_seen_56 : decode cX9_seen 56 = .ok (.getfield 44, 3) := by decide +kernel
theorem dX9_seen_59 : decode cX9_seen 59 = .ok (.getfield 115, 3) := by decide +kernel
theorem dX9_seen_62 : decode cX9_seen 62 = .ok (.goto 5, 3) := by decide +kernel
theorem dX9_seen_65 : decode cX9_seen 65 = .ok (.bipush (-3), 2) := by decide +kernel
theorem dX9_seen_67 : decode cX9_seen 67 = .ok (.ireturn, 1) := by decide +kernel
theorem dX9_forget_0 : decode cX9_forget 0 = .ok (.aload_n 0, 1) := by decide +kernel
theorem dX9_forget_1 : decode cX9_forget 1 = .ok (.getfield 44, 3) := by decide +kernel
theorem dX9_forget_4 : decode cX9_forget 4 = .ok (.getfield 115, 3) := by decide +kernel
theorem dX9_forget_7 : decode cX9_forget 7 = .ok (.istore_n 1, 1) := by decide +kernel
theorem dX9_forget_8 : decode cX9_forget 8 = .ok (.aload_n 0, 1) := by decide +kernel
theorem dX9_forget_9 : decode cX9_forget 9 = .ok (.getfield 44, 3) := by decide +kernel
theorem dX9_forget_12 : decode cX9_forget 12 = .ok (.iconst 0, 1) := by decide +kernel
theorem dX9_forget_13 : decode cX9_forget 13 = .ok (.putfield 115, 3) := by decide +kernel
theorem dX9_forget_16 : decode cX9_forget 16 = .ok (.iload_n 1, 1) := by decide +kernel
theorem dX9_forget_17 : decode cX9_forget 17 = .ok (.ireturn, 1) := by decide +kernel
theorem dX9_fits_0 : decode cX9_fits 0 = .ok (.aload_n 0, 1) := by decide +kernel
theorem dX9_fits_1 : decode cX9_fits 1 = .ok (.getfield 19, 3) := by decide +kernel
theorem dX9_fits_4 : decode cX9_fits 4 = .ok (.iload_n 1, 1) := by decide +kernel
theorem dX9_fits_5 : decode cX9_fits 5 = .ok (.invokevirtual 116, 3) := by decide +kernel
theorem dX9_fits_8 : decode cX9_fits 8 = .ok (.ifCond .eq 10, 3) := by decide +kernel
theorem dX9_fits_11 : decode cX9_fits 11 = .ok (.iload_n 2, 1) := by decide +kernel
theorem dX9_fits_12 : decode cX9_fits 12 = .ok (.invokestatic 213, 3) := by decide +kernel
theorem dX9_fits_15 : decode cX9_fits 15 = .ok (.ifCond .ne 5, 3) := by decide +kernel
theorem dX9_fits_18 : decode cX9_fits 18 = .ok (.iconst (-1), 1) := by decide +kernel
theorem dX9_fits_19 : decode cX9_fits 19 = .ok (.ireturn, 1) := by decide +kernel
theorem dX9_fits_20 : decode cX9_fits 20 = .ok (.iconst 0, 1) := by decide +kernel
theorem dX9_fits_21 : decode cX9_fits 21 = .ok (.istore_n 3, 1) := by decide +kernel
theorem dX9_fits_22 : decode cX9_fits 22 = .ok (.bipush (-4), 2) := by decide +kernel
theorem dX9_fits_24 : decode cX9_fits 24 = .ok (.istore 4, 2) := by decide +kernel
theorem dX9_fits_26 : decode cX9_fits 26 = .ok (.aload_n 0, 1) := by decide +kernel
theorem dX9_fits_27 : decode cX9_fits 27 = .ok (.getfield 19, 3) := by decide +kernel
theorem dX9_fits_30 : decode cX9_fits 30 = .ok (.getfield 84, 3) := by decide +kernel
theorem dX9_fits_33 : decode cX9_fits 33 = .ok (.iconst 1, 1) := by decide +kernel
theorem dX9_fits_34 : decode cX9_fits 34 = .ok (.isub, 1) := by decide +kernel
theorem dX9_fits_35 : decode cX9_fits 35 = .ok (.istore 5, 2) := by decide +kernel
theorem dX9_fits_37 : decode cX9_fits 37 = .ok (.iload 5, 2) := by decide +kernel
theorem dX9_fits_39 : decode cX9_fits 39 = .ok (.ifCond .lt 33, 3) := by decide +kernel
theorem dX9_fits_42 : decode cX9_fits 42 = .ok (.aload_n 0, 1) := by decide +kernel
theorem dX9_fits_43 : decode cX9_fits 43 = .ok (.getfield 44, 3) := by decide +kernel
theorem dX9_fits_46 : decode cX9_fits 46 = .ok (.aload_n 0, 1) := by decide +kernel
theorem dX9_fits_47 : decode cX9_fits 47 = .ok (.getfield 19, 3) := by decide +kernel
theorem dX9_fits_50 : decode cX9_fits 50 = .ok (.iload_n 1, 1) := by decide +kernel
theorem dX9_fits_51 : decode cX9_fits 51 = .ok (.iload 5, 2) := by decide +kernel
theorem dX9_fits_53 : decode cX9_fits 53 = .ok (.invokevirtual 277, 3) := by decide +kernel
theorem dX9_fits_56 : decode cX9_fits 56 = .ok (.ifCond .eq 10, 3) := by decide +kernel
theorem dX9_fits_59 : decode cX9_fits 59 = .ok (.iinc 3 1, 3) := by decide +kernel
theorem dX9_fits_62 : decode cX9_fits 62 = .ok (.iload 5, 2) := by decide +kernel
theorem dX9_fits_64 : decode cX9_fits 64 = .ok (.istore 4, 2) := by decide +kernel
theorem dX9_fits_66 : decode cX9_fits 66 = .ok (.iinc 5 (-1), 3) := by decide +kernel
theorem dX9_fits_69 : decode cX9_fits 69 = .ok (.goto (-32), 3) := by decide +kernel
theorem dX9_fits_72 : decode cX9_fits 72 = .ok (.iload_n 2, 1) := by decide +kernel
theorem dX9_fits_73 : decode cX9_fits 73 = .ok (.ifCond .ne 7, 3) := by decide +kernel
theorem dX9_fits_76 : decode cX9_fits 76 = .ok (.iload_n 3, 1) := by decide +kernel
theorem dX9_fits_77 : decode cX9_fits 77 = .ok (.goto 5, 3) := by decide +kernel
theorem dX9_fits_80 : decode cX9_fits 80 = .ok (.iload 4, 2) := by decide +kernel
theorem dX9_fits_82 : decode cX9_fits 82 = .ok (.ireturn, 1) := by decide +kernel
theorem dX9_mean_0 : decode cX9_mean 0 = .ok (.aload_n 0, 1) := by decide +kernel
theorem dX9_mean_1 : decode cX9_mean 1 = .ok (.getfield 19, 3) := by decide +kernel
theorem dX9_mean_4 : decode cX9_mean 4 = .ok (.iload_n 1, 1) := by decide +kernel
theorem dX9_mean_5 : decode cX9_mean 5 = .ok (.invokevirtual 116, 3) := by decide +kernel
theorem dX9_mean_8 : decode cX9_mean 8 = .ok (.ifCond .eq 20, 3) := by decide +kernel
theorem dX9_mean_11 : decode cX9_mean 11 = .ok (.iload_n 2, 1) := by decide +kernel
theorem dX9_mean_12 : decode cX9_mean 12 = .ok (.ifCond .lt 16, 3) := by decide +kernel
theorem dX9_mean_15 : decode cX9_mean 15 = .ok (.iload_n 2, 1) := by decide +kernel
theorem dX9_mean_16 : decode cX9_mean 16 = .ok (.bipush 6, 2) := by decide +kernel
theorem dX9_mean_18 : decode cX9_mean 18 = .ok (.if_icmp .gt 10, 3) := by decide +kernel
theorem dX9_mean_21 : decode cX9_mean 21 = .ok (.iload_n 3, 1) := by decide +kernel
theorem dX9_mean_22 : decode cX9_mean 22 = .ok (.invokestatic 213, 3) := by decide +kernel
theorem dX9_mean_25 : decode cX9_mean 25 = .ok (.ifCond .ne 5, 3) := by decide +kernel
theorem dX9_mean_28 : decode cX9_mean 28 = .ok (.iconst (-1), 1) := by decide +kernel
theorem dX9_mean_29 : decode cX9_mean 29 = .ok (.ireturn, 1) := by decide +kernel
theorem dX9_mean_30 : decode cX9_mean 30 = .ok (.aload_n 0, 1) := by decide +kernel
theorem dX9_mean_31 : decode cX9_mean 31 = .ok (.invokevirtual 184, 3) := by decide +kernel
theorem dX9_mean_34 : decode cX9_mean 34 = .ok (.aload_n 0, 1) := by decide +kernel
theorem dX9_mean_35 : decode cX9_mean 35 = .ok (.getfield 69, 3) := by decide +kernel
theorem dX9_mean_38 : decode cX9_mean 38 = .ok (.aload_n 0, 1) := by decide +kernel
theorem dX9_mean_39 : decode cX9_mean 39 = .ok (.getfield 51, 3) := by decide +kernel
theorem dX9_mean_42 : decode cX9_mean 42 = .ok (.aload_n 0, 1) := by decide +kernel
theorem dX9_mean_43 : decode cX9_mean 43 = .ok (.getfield 51, 3) := by decide +kernel
theorem dX9_mean_46 : decode cX9_mean 46 = .ok (.aload_n 0, 1) := by decide +kernel
theorem dX9_mean_47 : decode cX9_mean 47 = .ok (.getfield 94, 3) := by decide +kernel
theorem dX9_mean_50 : decode cX9_mean 50 = .ok (.invokevirtual 206, 3) := by decide +kernel
theorem dX9_mean_53 : decode cX9_mean 53 = .ok (.iload_n 2, 1) := by decide +kernel
theorem dX9_mean_54 : decode cX9_mean 54 = .ok (.invokevirtual 281, 3) := by decide +kernel
theorem dX9_mean_57 : decode cX9_mean 57 = .ok (.aload_n 0, 1) := by decide +kernel
theorem dX9_mean_58 : decode cX9_mean 58 = .ok (.getfield 69, 3) := by decide +kernel
theorem dX9_mean_61 : decode cX9_mean 61 = .ok (.aload_n 0, 1) := by decide +kernel
theorem dX9_mean_62 : decode cX9_mean 62 = .ok (.getfield 51, 3) := by decide +kernel
theorem dX9_mean_65 : decode cX9_mean 65 = .ok (.aload_n 0, 1) := by decide +kernel
theorem dX9_mean_66 : decode cX9_mean 66 = .ok (.getfield 19, 3) := by decide +kernel
theorem dX9_mean_69 : decode cX9_mean 69 = .ok (.iload_n 1, 1) := by decide +kernel
theorem dX9_mean_70 : decode cX9_mean 70 = .ok (.invokevirtual 284, 3) := by decide +kernel
theorem dX9_mean_73 : decode cX9_mean 73 = .ok (.iload_n 3, 1) := by decide +kernel
theorem dX9_mean_74 : decode cX9_mean 74 = .ok (.ifCond .ne 17, 3) := by decide +kernel
theorem dX9_mean_77 : decode cX9_mean 77 = .ok (.aload_n 0, 1) := by decide +kernel
theorem dX9_mean_78 : decode cX9_mean 78 = .ok (.getfield 69, 3) := by decide +kernel
theorem dX9_mean_81 : decode cX9_mean 81 = .ok (.getfield 288, 3) := by decide +kernel
theorem dX9_mean_84 : decode cX9_mean 84 = .ok (.ldc_w 291, 3) := by decide +kernel
theorem dX9_mean_87 : decode cX9_mean 87 = .ok (.iadd, 1) := by decide +kernel
theorem dX9_mean_88 : decode cX9_mean 88 = .ok (.goto 10, 3) := by decide +kernel
theorem dX9_mean_91 : decode cX9_mean 91 = .ok (.aload_n 0, 1) := by decide +kernel
theorem dX9_mean_92 : decode cX9_mean 92 = .ok (.getfield 69, 3) := by decide +kernel
theorem dX9_mean_95 : decode cX9_mean 95 = .ok (.getfield 292, 3) := by decide +kernel
theorem dX9_mean_98 : decode cX9_mean 98 = .ok (.ireturn, 1) := by decide +kernel
theorem dX9_keep_0 : decode cX9_keep 0 = .ok (.aload_n 0, 1) := by decide +kernel
theorem dX9_keep_1 : decode cX9_keep 1 = .ok (.getfield 38, 3) := by decide +kernel
theorem dX9_keep_4 : decode cX9_keep 4 = .ok (.invokevirtual 165, 3) := by decide +kernel
theorem dX9_keep_7 : decode cX9_keep 7 = .ok (.ifCond .eq 6, 3) := by decide +kernel
theorem dX9_keep_10 : decode cX9_keep 10 = .ok (.bipush (-3), 2) := by decide +kernel
theorem dX9_keep_12 : decode cX9_keep 12 = .ok (.ireturn, 1) := by decide +kernel
theorem dX9_keep_13 : decode cX9_keep 13 = .ok (.aload_n 0, 1) := by decide +kernel
theorem dX9_keep_14 : decode cX9_keep 14 = .ok (.getfield 38, 3) := by decide +kernel
theorem dX9_keep_17 : decode cX9_keep 17 = .ok (.aload_n 0, 1) := by decide +kernel
theorem dX9_keep_18 : decode cX9_keep 18 = .ok (.getfield 94, 3) := by decide +kernel
theorem dX9_keep_21 : decode cX9_keep 21 = .ok (.invokevirtual 171, 3) := by decide +kernel
theorem dX9_keep_24 : decode cX9_keep 24 = .ok (.aload_n 0, 1) := by decide +kernel
theorem dX9_keep_25 : decode cX9_keep 25 = .ok (.getfield 38, 3) := by decide +kernel
theorem dX9_keep_28 : decode cX9_keep 28 = .ok (.getfield 112, 3) := by decide +kernel
theorem dX9_keep_31 : decode cX9_keep 31 = .ok (.ireturn, 1) := by decide +kernel
theorem dX9_back_0 : decode cX9_back 0 = .ok (.aload_n 0, 1) := by decide +kernel
theorem dX9_back_1 : decode cX9_back 1 = .ok (.getfield 38, 3) := by decide +kernel
theorem dX9_back_4 : decode cX9_back 4 = .ok (.getfield 112, 3) := by decide +kernel
theorem dX9_back_7 : decode cX9_back 7 = .ok (.ifCond .ne 6, 3) := by decide +kernel
theorem dX9_back_10 : decode cX9_back 10 = .ok (.bipush (-2), 2) := by decide +kernel
theorem dX9_back_12 : decode cX9_back 12 = .ok (.ireturn, 1) := by decide +kernel
theorem dX9_back_13 : decode cX9_back 13 = .ok (.aload_n 0, 1) := by decide +kernel
theorem dX9_back_14 : decode cX9_back 14 = .ok (.aload_n 0, 1) := by decide +kernel
theorem dX9_back_15 : decode cX9_back 15 = .ok (.getfield 38, 3) := by decide +kernel
theorem dX9_back_18 : decode cX9_back 18 = .ok (.invokevirtual 174, 3) := by decide +kernel
theorem dX9_back_21 : decode cX9_back 21 = .ok (.putfield 94, 3) := by decide +kernel
theorem dX9_back_24 : decode cX9_back 24 = .ok (.aload_n 0, 1) := by decide +kernel
theorem dX9_back_25 : decode cX9_back 25 = .ok (.getfield 35, 3) := by decide +kernel
theorem dX9_back_28 : decode cX9_back 28 = .ok (.iconst 0, 1) := by decide +kernel
theorem dX9_back_29 : decode cX9_back 29 = .ok (.putfield 112, 3) := by decide +kernel
theorem dX9_back_32 : decode cX9_back 32 = .ok (.aload_n 0, 1) := by decide +kernel
theorem dX9_back_33 : decode cX9_back 33 = .ok (.getfield 38, 3) := by decide +kernel
theorem dX9_back_36 : decode cX9_back 36 = .ok (.getfield 112, 3) := by decide +kernel
theorem dX9_back_39 : decode cX9_back 39 = .ok (.ireturn, 1) := by decide +kernel
theorem dX9_count_0 : decode cX9_count 0 = .ok (.iload_n 1, 1) := by decide +kernel
theorem dX9_count_1 : decode cX9_count 1 = .ok (.tableswitch 115 0 7 #[47, 55, 63, 75, 83, 91, 99, 107], 47) := by decide +kernel
theorem dX9_count_48 : decode cX9_count 48 = .ok (.aload_n 0, 1) := by decide +kernel
theorem dX9_count_49 : decode cX9_count 49 = .ok (.getfield 19, 3) := by decide +kernel
theorem dX9_count_52 : decode cX9_count 52 = .ok (.getfield 84, 3) := by decide +kernel
theorem dX9_count_55 : decode cX9_count 55 = .ok (.ireturn, 1) := by decide +kernel
theorem dX9_count_56 : decode cX9_count 56 = .ok (.aload_n 0, 1) := by decide +kernel
theorem dX9_count_57 : decode cX9_count 57 = .ok (.getfield 19, 3) := by decide +kernel
theorem dX9_count_60 : decode cX9_count 60 = .ok (.invokevirtual 295, 3) := by decide +kernel
theorem dX9_count_63 : decode cX9_count 63 = .ok (.ireturn, 1) := by decide +kernel
theorem dX9_count_64 : decode cX9_count 64 = .ok (.aload_n 0, 1) := by decide +kernel
theorem dX9_count_65 : decode cX9_count 65 = .ok (.getfield 19, 3) := by decide +kernel
theorem dX9_count_68 : decode cX9_count 68 = .ok (.aload_n 0, 1) := by decide +kernel
theorem dX9_count_69 : decode cX9_count 69 = .ok (.getfield 94, 3) := by decide +kernel
theorem dX9_count_72 : decode cX9_count 72 = .ok (.invokevirtual 298, 3) := by decide +kernel
theorem dX9_count_75 : decode cX9_count 75 = .ok (.ireturn, 1) := by decide +kernel
theorem dX9_count_76 : decode cX9_count 76 = .ok (.aload_n 0, 1) := by decide +kernel
theorem dX9_count_77 : decode cX9_count 77 = .ok (.getfield 31, 3) := by decide +kernel
theorem dX9_count_80 : decode cX9_count 80 = .ok (.getfield 112, 3) := by decide +kernel
theorem dX9_count_83 : decode cX9_count 83 = .ok (.ireturn, 1) := by decide +kernel
theorem dX9_count_84 : decode cX9_count 84 = .ok (.aload_n 0, 1) := by decide +kernel
theorem dX9_count_85 : decode cX9_count 85 = .ok (.getfield 44, 3) := by decide +kernel
theorem dX9_count_88 : decode cX9_count 88 = .ok (.getfield 115, 3) := by decide +kernel
theorem dX9_count_91 : decode cX9_count 91 = .ok (.ireturn, 1) := by decide +kernel
theorem dX9_count_92 : decode cX9_count 92 = .ok (.aload_n 0, 1) := by decide +kernel
theorem dX9_count_93 : decode cX9_count 93 = .ok (.getfield 35, 3) := by decide +kernel
theorem dX9_count_96 : decode cX9_count 96 = .ok (.getfield 112, 3) := by decide +kernel
theorem dX9_count_99 : decode cX9_count 99 = .ok (.ireturn, 1) := by decide +kernel
theorem dX9_count_100 : decode cX9_count 100 = .ok (.aload_n 0, 1) := by decide +kernel
theorem dX9_count_101 : decode cX9_count 101 = .ok (.getfield 38, 3) := by decide +kernel
theorem dX9_count_104 : decode cX9_count 104 = .ok (.getfield 112, 3) := by decide +kernel
theorem dX9_count_107 : decode cX9_count 107 = .ok (.ireturn, 1) := by decide +kernel
theorem dX9_count_108 : decode cX9_count 108 = .ok (.aload_n 0, 1) := by decide +kernel
theorem dX9_count_109 : decode cX9_count 109 = .ok (.getfield 10, 3) := by decide +kernel
theorem dX9_count_112 : decode cX9_count 112 = .ok (.getfield 101, 3) := by decide +kernel
theorem dX9_count_115 : decode cX9_count 115 = .ok (.ireturn, 1) := by decide +kernel
theorem dX9_count_116 : decode cX9_count 116 = .ok (.iconst (-1), 1) := by decide +kernel
theorem dX9_count_117 : decode cX9_count 117 = .ok (.ireturn, 1) := by decide +kernel
theorem dX9_isPlaceOrAll_0 : decode cX9_isPlaceOrAll 0 = .ok (.iload_n 1, 1) := by decide +kernel
theorem dX9_isPlaceOrAll_1 : decode cX9_isPlaceOrAll 1 = .ok (.iconst (-1), 1) := by decide +kernel
theorem dX9_isPlaceOrAll_2 : decode cX9_isPlaceOrAll 2 = .ok (.if_icmp .eq 14, 3) := by decide +kernel
theorem dX9_isPlaceOrAll_5 : decode cX9_isPlaceOrAll 5 = .ok (.aload_n 0, 1) := by decide +kernel
theorem dX9_isPlaceOrAll_6 : decode cX9_isPlaceOrAll 6 = .ok (.getfield 19, 3) := by decide +kernel
theorem dX9_isPlaceOrAll_9 : decode cX9_isPlaceOrAll 9 = .ok (.iload_n 1, 1) := by decide +kernel
theorem dX9_isPlaceOrAll_10 : decode cX9_isPlaceOrAll 10 = .ok (.invokevirtual 116, 3) := by decide +kernel
theorem dX9_isPlaceOrAll_13 : decode cX9_isPlaceOrAll 13 = .ok (.ifCond .eq 7, 3) := by decide +kernel
theorem dX9_isPlaceOrAll_16 : decode cX9_isPlaceOrAll 16 = .ok (.iconst 1, 1) := by decide +kernel
theorem dX9_isPlaceOrAll_17 : decode cX9_isPlaceOrAll 17 = .ok (.goto 4, 3) := by decide +kernel
theorem dX9_isPlaceOrAll_20 : decode cX9_isPlaceOrAll 20 = .ok (.iconst 0, 1) := by decide +kernel
theorem dX9_isPlaceOrAll_21 : decode cX9_isPlaceOrAll 21 = .ok (.ireturn, 1) := by decide +kernel
theorem dX9_isEither_0 : decode cX9_isEither 0 = .ok (.iload_n 0, 1) := by decide +kernel
theorem dX9_isEither_1 : decode cX9_isEither 1 = .ok (.ifCond .eq 8, 3) := by decide +kernel
theorem dX9_isEither_4 : decode cX9_isEither 4 = .ok (.iload_n 0, 1) := by decide +kernel
theorem dX9_isEither_5 : decode cX9_isEither 5 = .ok (.iconst 1, 1) := by decide +kernel
theorem dX9_isEither_6 : decode cX9_isEither 6 = .ok (.if_icmp .ne 7, 3) := by decide +kernel
theorem dX9_isEither_9 : decode cX9_isEither 9 = .ok (.iconst 1, 1) := by decide +kernel
theorem dX9_isEither_10 : decode cX9_isEither 10 = .ok (.goto 4, 3) := by decide +kernel
theorem dX9_isEither_13 : decode cX9_isEither 13 = .ok (.iconst 0, 1) := by decide +kernel
theorem dX9_isEither_14 : decode cX9_isEither 14 = .ok (.ireturn, 1) := by decide +kernel
