theorem dX0_init_0 : decode cX0_init 0 = .ok (.aload_n 0, 1) := by decide +kernel
theorem dX0_init_1 : decode cX0_init 1 = .ok (.invokespecial 3, 3) := by decide +kernel
theorem dX0_init_4 : decode cX0_init 4 = .ok (.aload_n 0, 1) := by decide +kernel
theorem dX0_init_5 : decode cX0_init 5 = .ok (.sipush 720, 3) := by decide +kernel
theorem dX0_init_8 : decode cX0_init 8 = .ok (.newarray .int, 2) := by decide +kernel
theorem dX0_init_10 : decode cX0_init 10 = .ok (.putfield 9, 3) := by decide +kernel
theorem dX0_init_13 : decode cX0_init 13 = .ok (.aload_n 0, 1) := by decide +kernel
theorem dX0_init_14 : decode cX0_init 14 = .ok (.sipush 720, 3) := by decide +kernel
theorem dX0_init_17 : decode cX0_init 17 = .ok (.newarray .int, 2) := by decide +kernel
theorem dX0_init_19 : decode cX0_init 19 = .ok (.putfield 15, 3) := by decide +kernel
theorem dX0_init_22 : decode cX0_init 22 = .ok (.aload_n 0, 1) := by decide +kernel
theorem dX0_init_23 : decode cX0_init 23 = .ok (.iconst 0, 1) := by decide +kernel
theorem dX0_init_24 : decode cX0_init 24 = .ok (.putfield 18, 3) := by decide +kernel
theorem dX0_init_27 : decode cX0_init 27 = .ok (.aload_n 0, 1) := by decide +kernel
theorem dX0_init_28 : decode cX0_init 28 = .ok (.iconst 1, 1) := by decide +kernel
theorem dX0_init_29 : decode cX0_init 29 = .ok (.putfield 22, 3) := by decide +kernel
theorem dX0_init_32 : decode cX0_init 32 = .ok (.return_, 1) := by decide +kernel
theorem dX0_pass_0 : decode cX0_pass 0 = .ok (.aload_n 0, 1) := by decide +kernel
theorem dX0_pass_1 : decode cX0_pass 1 = .ok (.getfield 9, 3) := by decide +kernel
theorem dX0_pass_4 : decode cX0_pass 4 = .ok (.iconst 0, 1) := by decide +kernel
theorem dX0_pass_5 : decode cX0_pass 5 = .ok (.invokestatic 25, 3) := by decide +kernel
theorem dX0_pass_8 : decode cX0_pass 8 = .ok (.aload_n 0, 1) := by decide +kernel
theorem dX0_pass_9 : decode cX0_pass 9 = .ok (.iconst 1, 1) := by decide +kernel
theorem dX0_pass_10 : decode cX0_pass 10 = .ok (.putfield 22, 3) := by decide +kernel
theorem dX0_pass_13 : decode cX0_pass 13 = .ok (.iload_n 2, 1) := by decide +kernel
theorem dX0_pass_14 : decode cX0_pass 14 = .ok (.ifCond .lt 17, 3) := by decide +kernel
theorem dX0_pass_17 : decode cX0_pass 17 = .ok (.iload_n 2, 1) := by decide +kernel
theorem dX0_pass_18 : decode cX0_pass 18 = .ok (.sipush 720, 3) := by decide +kernel
theorem dX0_pass_21 : decode cX0_pass 21 = .ok (.if_icmp .ge 10, 3) := by decide +kernel
theorem dX0_pass_24 : decode cX0_pass 24 = .ok (.aload_n 0, 1) := by decide +kernel
theorem dX0_pass_25 : decode cX0_pass 25 = .ok (.getfield 9, 3) := by decide +kernel
theorem dX0_pass_28 : decode cX0_pass 28 = .ok (.iload_n 2, 1) := by decide +kernel
theorem dX0_pass_29 : decode cX0_pass 29 = .ok (.iconst 1, 1) := by decide +kernel
theorem dX0_pass_30 : decode cX0_pass 30 = .ok (.iastore, 1) := by decide +kernel
theorem dX0_pass_31 : decode cX0_pass 31 = .ok (.iconst 0, 1) := by decide +kernel
theorem dX0_pass_32 : decode cX0_pass 32 = .ok (.istore 4, 2) := by decide +kernel
theorem dX0_pass_34 : decode cX0_pass 34 = .ok (.iload 4, 2) := by decide +kernel
theorem dX0_pass_36 : decode cX0_pass 36 = .ok (.iload_n 3, 1) := by decide +kernel
theorem dX0_pass_37 : decode cX0_pass 37 = .ok (.if_icmp .ge 27, 3) := by decide +kernel
theorem dX0_pass_40 : decode cX0_pass 40 = .ok (.aload_n 0, 1) := by decide +kernel
theorem dX0_pass_41 : decode cX0_pass 41 = .ok (.aload_n 1, 1) := by decide +kernel
theorem dX0_pass_42 : decode cX0_pass 42 = .ok (.invokevirtual 31, 3) := by decide +kernel
theorem dX0_pass_45 : decode cX0_pass 45 = .ok (.aload_n 0, 1) := by decide +kernel
theorem dX0_pass_46 : decode cX0_pass 46 = .ok (.dup, 1) := by decide +kernel
theorem dX0_pass_47 : decode cX0_pass 47 = .ok (.getfield 22, 3) := by decide +kernel
theorem dX0_pass_50 : decode cX0_pass 50 = .ok (.aload_n 1, 1) := by decide +kernel
theorem dX0_pass_51 : decode cX0_pass 51 = .ok (.getfield 35, 3) := by decide +kernel
theorem dX0_pass_54 : decode cX0_pass 54 = .ok (.imul, 1) := by decide +kernel
theorem dX0_pass_55 : decode cX0_pass 55 = .ok (.putfield 22, 3) := by decide +kernel
theorem dX0_pass_58 : decode cX0_pass 58 = .ok (.iinc 4 1, 3) := by decide +kernel
theorem dX0_pass_61 : decode cX0_pass 61 = .ok (.goto (-27), 3) := by decide +kernel
theorem dX0_pass_64 : decode cX0_pass 64 = .ok (.return_, 1) := by decide +kernel
theorem dX0_passOne_0 : decode cX0_passOne 0 = .ok (.aload_n 0, 1) := by decide +kernel
theorem dX0_passOne_1 : decode cX0_passOne 1 = .ok (.getfield 15, 3) := by decide +kernel
theorem dX0_passOne_4 : decode cX0_passOne 4 = .ok (.iconst 0, 1) := by decide +kernel
theorem dX0_passOne_5 : decode cX0_passOne 5 = .ok (.invokestatic 25, 3) := by decide +kernel
theorem dX0_passOne_8 : decode cX0_passOne 8 = .ok (.iconst 0, 1) := by decide +kernel
theorem dX0_passOne_9 : decode cX0_passOne 9 = .ok (.istore_n 2, 1) := by decide +kernel
theorem dX0_passOne_10 : decode cX0_passOne 10 = .ok (.iload_n 2, 1) := by decide +kernel
theorem dX0_passOne_11 : decode cX0_passOne 11 = .ok (.aload_n 1, 1) := by decide +kernel
theorem dX0_passOne_12 : decode cX0_passOne 12 = .ok (.getfield 40, 3) := by decide +kernel
theorem dX0_passOne_15 : decode cX0_passOne 15 = .ok (.if_icmp .ge 68, 3) := by decide +kernel
theorem dX0_passOne_18 : decode cX0_passOne 18 = .ok (.iconst 0, 1) := by decide +kernel
theorem dX0_passOne_19 : decode cX0_passOne 19 = .ok (.istore_n 3, 1) := by decide +kernel
theorem dX0_passOne_20 : decode cX0_passOne 20 = .ok (.iload_n 3, 1) := by decide +kernel
theorem dX0_passOne_21 : decode cX0_passOne 21 = .ok (.aload_n 1, 1) := by decide +kernel
theorem dX0_passOne_22 : decode cX0_passOne 22 = .ok (.getfield 35, 3) := by decide +kernel
theorem dX0_passOne_25 : decode cX0_passOne 25 = .ok (.if_icmp .ge 52, 3) := by decide +kernel
theorem dX0_passOne_28 : decode cX0_passOne 28 = .ok (.aload_n 0, 1) := by decide +kernel
theorem dX0_passOne_29 : decode cX0_passOne 29 = .ok (.getfield 9, 3) := by decide +kernel
theorem dX0_passOne_32 : decode cX0_passOne 32 = .ok (.iload_n 2, 1) := by decide +kernel
theorem dX0_passOne_33 : decode cX0_passOne 33 = .ok (.iaload, 1) := by decide +kernel
theorem dX0_passOne_34 : decode cX0_passOne 34 = .ok (.ifCond .le 43, 3) := by decide +kernel
theorem dX0_passOne_37 : decode cX0_passOne 37 = .ok (.aload_n 1, 1) := by decide +kernel
theorem dX0_passOne_38 : decode cX0_passOne 38 = .ok (.iload_n 2, 1) := by decide +kernel
theorem dX0_passOne_39 : decode cX0_passOne 39 = .ok (.iload_n 3, 1) := by decide +kernel
theorem dX0_passOne_40 : decode cX0_passOne 40 = .ok (.iconst (-1), 1) := by decide +kernel
theorem dX0_passOne_41 : decode cX0_passOne 41 = .ok (.invokevirtual 43, 3) := by decide +kernel
theorem dX0_passOne_44 : decode cX0_passOne 44 = .ok (.istore 4, 2) := by decide +kernel
theorem dX0_passOne_46 : decode cX0_passOne 46 = .ok (.aload_n 0, 1) := by decide +kernel
theorem dX0_passOne_47 : decode cX0_passOne 47 = .ok (.getfield 15, 3) := by decide +kernel
theorem dX0_passOne_50 : decode cX0_passOne 50 = .ok (.iload 4, 2) := by decide +kernel
theorem dX0_passOne_52 : decode cX0_passOne 52 = .ok (.ifCond .lt 8, 3) := by decide +kernel
theorem dX0_passOne_55 : decode cX0_passOne 55 = .ok (.iload 4, 2) := by decide +kernel
theorem dX0_passOne_57 : decode cX0_passOne 57 = .ok (.goto 4, 3) := by decide +kernel
theorem dX0_passOne_60 : decode cX0_passOne 60 = .ok (.iload_n 2, 1) := by decide +kernel
theorem dX0_passOne_61 : decode cX0_passOne 61 = .ok (.dup2, 1) := by decide +kernel
theorem dX0_passOne_62 : decode cX0_passOne 62 = .ok (.iaload, 1) := by decide +kernel
theorem dX0_passOne_63 : decode cX0_passOne 63 = .ok (.aload_n 0, 1) := by decide +kernel
theorem dX0_passOne_64 : decode cX0_passOne 64 = .ok (.getfield 9, 3) := by decide +kernel
theorem dX0_passOne_67 : decode cX0_passOne 67 = .ok (.iload_n 2, 1) := by decide +kernel
theorem dX0_passOne_68 : decode cX0_passOne 68 = .ok (.iaload, 1) := by decide +kernel
theorem dX0_passOne_69 : decode cX0_passOne 69 = .ok (.iadd, 1) := by decide +kernel
theorem dX0_passOne_70 : decode cX0_passOne 70 = .ok (.iastore, 1) := by decide +kernel
theorem dX0_passOne_71 : decode cX0_passOne 71 = .ok (.iinc 3 1, 3) := by decide +kernel
theorem dX0_passOne_74 : decode cX0_passOne 74 = .ok (.goto (-54), 3) := by decide +kernel
theorem dX0_passOne_77 : decode cX0_passOne 77 = .ok (.iinc 2 1, 3) := by decide +kernel
theorem dX0_passOne_80 : decode cX0_passOne 80 = .ok (.goto (-70), 3) := by decide +kernel
theorem dX0_passOne_83 : decode cX0_passOne 83 = .ok (.aload_n 0, 1) := by decide +kernel
theorem dX0_passOne_84 : decode cX0_passOne 84 = .ok (.getfield 9, 3) := by decide +kernel
theorem dX0_passOne_87 : decode cX0_passOne 87 = .ok (.astore_n 2, 1) := by decide +kernel
theorem dX0_passOne_88 : decode cX0_passOne 88 = .ok (.aload_n 0, 1) := by decide +kernel
theorem dX0_passOne_89 : decode cX0_passOne 89 = .ok (.aload_n 0, 1) := by decide +kernel
theorem dX0_passOne_90 : decode cX0_passOne 90 = .ok (.getfield 15, 3) := by decide +kernel
theorem dX0_passOne_93 : decode cX0_passOne 93 = .ok (.putfield 9, 3) := by decide +kernel
theorem dX0_passOne_96 : decode cX0_passOne 96 = .ok (.aload_n 0, 1) := by decide +kernel
theorem dX0_passOne_97 : decode cX0_passOne 97 = .ok (.aload_n 2, 1) := by decide +kernel
theorem dX0_passOne_98 : decode cX0_passOne 98 = .ok (.putfield 15, 3) := by decide +kernel
theorem dX0_passOne_101 : decode cX0_passOne 101 = .ok (.return_, 1) := by decide +kernel
theorem dX0_takeMean_0 : decode cX0_takeMean 0 = .ok (.aload_n 0, 1) := by decide +kernel
theorem dX0_takeMean_1 : decode cX0_takeMean 1 = .ok (.iconst 0, 1) := by decide +kernel
theorem dX0_takeMean_2 : decode cX0_takeMean 2 = .ok (.putfield 18, 3) := by decide +kernel
theorem dX0_takeMean_5 : decode cX0_takeMean 5 = .ok (.iconst 0, 1) := by decide +kernel
theorem dX0_takeMean_6 : decode cX0_takeMean 6 = .ok (.istore 4, 2) := by decide +kernel
theorem dX0_takeMean_8 : decode cX0_takeMean 8 = .ok (.iload 4, 2) := by decide +kernel
theorem dX0_takeMean_10 : decode cX0_takeMean 10 = .ok (.aload_n 1, 1) := by decide +kernel
theorem dX0_takeMean_11 : decode cX0_takeMean 11 = .ok (.getfield 40, 3) := by decide +kernel
theorem dX0_takeMean_14 : decode cX0_takeMean 14 = .ok (.if_icmp .ge 47, 3) := by decide +kernel
theorem dX0_takeMean_17 : decode cX0_takeMean 17 = .ok (.aload_n 0, 1) := by decide +kernel
theorem dX0_takeMean_18 : decode cX0_takeMean 18 = .ok (.getfield 9, 3) := by decide +kernel
theorem dX0_takeMean_21 : decode cX0_takeMean 21 = .ok (.iload 4, 2) := by decide +kernel
theorem dX0_takeMean_23 : decode cX0_takeMean 23 = .ok (.iaload, 1) := by decide +kernel
theorem dX0_takeMean_24 : decode cX0_takeMean 24 = .ok (.ifCond .le 31, 3) := by decide +kernel
theorem dX0_takeMean_27 : decode cX0_takeMean 27 = .ok (.aload_n 0, 1) := by decide +kernel
theorem dX0_takeMean_28 : decode cX0_takeMean 28 = .ok (.dup, 1) := by decide +kernel
theorem dX0_takeMean_29 : decode cX0_takeMean 29 = .ok (.getfield 18, 3) := by decide +kernel
theorem dX0_takeMean_32 : decode cX0_takeMean 32 = .ok (.aload_n 0, 1) := by decide +kernel
theorem dX0_takeMean_33 : decode cX0_takeMean 33 = .ok (.getfield 9, 3) := by decide +kernel
theorem dX0_takeMean_36 : decode cX0_takeMean 36 = .ok (.iload 4, 2) := by decide +kernel
theorem dX0_takeMean_38 : decode cX0_takeMean 38 = .ok (.iaload, 1) := by decide +kernel
theorem dX0_takeMean_39 : decode cX0_takeMean 39 = .ok (.aload_n 2, 1) := by decide +kernel
theorem dX0_takeMean_40 : decode cX0_takeMean 40 = .ok (.aload_n 1, 1) := by decide +kernel
theorem dX0_takeMean_41 : decode cX0_takeMean 41 = .ok (.iload 4, 2) := by decide +kernel
theorem dX0_takeMean_43 : decode cX0_takeMean 43 = .ok (.invokevirtual 47, 3) := by decide +kernel
theorem dX0_takeMean_46 : decode cX0_takeMean 46 = .ok (.iload_n 3, 1) := by decide +kernel
theorem dX0_takeMean_47 : decode cX0_takeMean 47 = .ok (.invokevirtual 51, 3) := by decide +kernel
theorem dX0_takeMean_50 : decode cX0_takeMean 50 = .ok (.imul, 1) := by decide +kernel
theorem dX0_takeMean_51 : decode cX0_takeMean 51 = .ok (.iadd, 1) := by decide +kernel
theorem dX0_takeMean_52 : decode cX0_takeMean 52 = .ok (.putfield 18, 3) := by decide +kernel
theorem dX0_takeMean_55 : decode cX0_takeMean 55 = .ok (.iinc 4 1, 3) := by decide +kernel
theorem dX0_takeMean_58 : decode cX0_takeMean 58 = .ok (.goto (-50), 3) := by decide +kernel
theorem dX0_takeMean_61 : decode cX0_takeMean 61 = .ok (.aload_n 0, 1) := by decide +kernel
theorem dX0_takeMean_62 : decode cX0_takeMean 62 = .ok (.getfield 18, 3) := by decide +kernel
theorem dX0_takeMean_65 : decode cX0_takeMean 65 = .ok (.invokestatic 57, 3) := by decide +kernel
theorem dX0_takeMean_68 : decode cX0_takeMean 68 = .ok (.aload_n 0, 1) := by decide +kernel
theorem dX0_takeMean_69 : decode cX0_takeMean 69 = .ok (.getfield 22, 3) := by decide +kernel
theorem dX0_takeMean_72 : decode cX0_takeMean 72 = .ok (.invokestatic 62, 3) := by decide +kernel
theorem dX0_takeMean_75 : decode cX0_takeMean 75 = .ok (.istore 4, 2) := by decide +kernel
theorem dX0_takeMean_77 : decode cX0_takeMean 77 = .ok (.iload 4, 2) := by decide +kernel
theorem dX0_takeMean_79 : decode cX0_takeMean 79 = .ok (.iconst 1, 1) := by decide +kernel
theorem dX0_takeMean_80 : decode cX0_takeMean 80 = .ok (.if_icmp .le 25, 3) := by decide +kernel
theorem dX0_takeMean_83 : decode cX0_takeMean 83 = .ok (.aload_n 0, 1) := by decide +kernel
theorem dX0_takeMean_84 : decode cX0_takeMean 84 = .ok (.dup, 1) := by decide +kernel
theorem dX0_takeMean_85 : decode cX0_takeMean 85 = .ok (.getfield 18, 3) := by decide +kernel
theorem dX0_takeMean_88 : decode cX0_takeMean 88 = .ok (.iload 4, 2) := by decide +kernel
theorem dX0_takeMean_90 : decode cX0_takeMean 90 = .ok (.idiv, 1) := by decide +kernel
theorem dX0_takeMean_91 : decode cX0_takeMean 91 = .ok (.putfield 18, 3) := by decide +kernel
theorem dX0_takeMean_94 : decode cX0_takeMean 94 = .ok (.aload_n 0, 1) := by decide +kernel
theorem dX0_takeMean_95 : decode cX0_takeMean 95 = .ok (.dup, 1) := by decide +kernel
theorem dX0_takeMean_96 : decode cX0_takeMean 96 = .ok (.getfield 22, 3) := by decide +kernel
theorem dX0_takeMean_99 : decode cX0_takeMean 99 = .ok (.iload 4, 2) := by decide +kernel
theorem dX0_takeMean_101 : decode cX0_takeMean 101 = .ok (.idiv, 1) := by decide +kernel
theorem dX0_takeMean_102 : decode cX0_takeMean 102 = .ok (.putfield 22, 3) := by decide +kernel
theorem dX0_takeMean_105 : decode cX0_takeMean 105 = .ok (.return_, 1) := by decide +kernel
theorem dX0_commonDivisor_0 : decode cX0_commonDivisor 0 = .ok (.iload_n 0, 1) := by decide +kernel
theorem dX0_commonDivisor_1 : decode cX0_commonDivisor 1 = .ok (.istore_n 2, 1) := by decide +kernel
theorem dX0_commonDivisor_2 : decode cX0_commonDivisor 2 = .ok (.iload_n 1, 1) := by decide +kernel
theorem dX0_commonDivisor_3 : decode cX0_commonDivisor 3 = .ok (.istore_n 3, 1) := by decide +kernel
theorem dX0_commonDivisor_4 : decode cX0_commonDivisor 4 = .ok (.iconst 0, 1) := by decide +kernel
theorem dX0_commonDivisor_5 : decode cX0_commonDivisor 5 = .ok (.istore 4, 2) := by decide +kernel
theorem dX0_commonDivisor_7 : decode cX0_commonDivisor 7 = .ok (.iload 4, 2) := by decide +kernel
theorem dX0_commonDivisor_9 : decode cX0_commonDivisor 9 = .ok (.bipush 64, 2) := by decide +kernel
theorem dX0_commonDivisor_11 : decode cX0_commonDivisor 11 = .ok (.if_icmp .ge 23, 3) := by decide +kernel
theorem dX0_commonDivisor_14 : decode cX0_commonDivisor 14 = .ok (.iload_n 3, 1) := by decide +kernel
theorem dX0_commonDivisor_15 : decode cX0_commonDivisor 15 = .ok (.ifCond .eq 19, 3) := by decide +kernel
theorem dX0_commonDivisor_18 : decode cX0_commonDivisor 18 = .ok (.iload_n 2, 1) := by decide +kernel
theorem dX0_commonDivisor_19 : decode cX0_commonDivisor 19 = .ok (.iload_n 3, 1) := by decide +kernel
theorem dX0_commonDivisor_20 : decode cX0_commonDivisor 20 = .ok (.irem, 1) := by decide +kernel
theorem dX0_commonDivisor_21 : decode cX0_commonDivisor 21 = .ok (.istore 5, 2) := by decide +kernel
theorem dX0_commonDivisor_23 : decode cX0_commonDivisor 23 = .ok (.iload_n 3, 1) := by decide +kernel
theorem dX0_commonDivisor_24 : decode cX0_commonDivisor 24 = .ok (.istore_n 2, 1) := by decide +kernel
theorem dX0_commonDivisor_25 : decode cX0_commonDivisor 25 = .ok (.iload 5, 2) := by decide +kernel
theorem dX0_commonDivisor_27 : decode cX0_commonDivisor 27 = .ok (.istore_n 3, 1) := by decide +kernel
theorem dX0_commonDivisor_28 : decode cX0_commonDivisor 28 = .ok (.iinc 4 1, 3) := by decide +kernel
theorem dX0_commonDivisor_31 : decode cX0_commonDivisor 31 = .ok (.goto (-24), 3) := by decide +kernel
theorem dX0_commonDivisor_34 : decode cX0_commonDivisor 34 = .ok (.iload_n 2, 1) := by decide +kernel
theorem dX0_commonDivisor_35 : decode cX0_commonDivisor 35 = .ok (.ireturn, 1) := by decide +kernel
theorem dX1_init_0 : decode cX1_init 0 = .ok (.aload_n 0, 1) := by decide +kernel
theorem dX1_init_1 : decode cX1_init 1 = .ok (.invokespecial 3, 3) := by decide +kernel
theorem dX1_init_4 : decode cX1_init 4 = .ok (.aload_n 0, 1) := by decide +kernel
theorem dX1_init_5 : decode cX1_init 5 = .ok (.sipush 720, 3) := by decide +kernel
theorem dX1_init_8 : decode cX1_init 8 = .ok (.newarray .int, 2) := by decide +kernel
theorem dX1_init_10 : decode cX1_init 10 = .ok (.putfield 9, 3) := by decide +kernel
theorem dX1_init_13 : decode cX1_init 13 = .ok (.aload_n 0, 1) := by decide +kernel
theorem dX1_init_14 : decode cX1_init 14 = .ok (.sipush 4320, 3) := by decide +kernel
theorem dX1_init_17 : decode cX1_init 17 = .ok (.newarray .int, 2) := by decide +kernel
theorem dX1_init_19 : decode cX1_init 19 = .ok (.putfield 15, 3) := by decide +kernel
theorem dX1_init_22 : decode cX1_init 22 = .ok (.aload_n 0, 1) := by decide +kernel
theorem dX1_init_23 : decode cX1_init 23 = .ok (.iconst 0, 1) := by decide +kernel
theorem dX1_init_24 : decode cX1_init 24 = .ok (.putfield 18, 3) := by decide +kernel
theorem dX1_init_27 : decode cX1_init 27 = .ok (.aload_n 0, 1) := by decide +kernel
theorem dX1_init_28 : decode cX1_init 28 = .ok (.iconst 0, 1) := by decide +kernel
theorem dX1_init_29 : decode cX1_init 29 = .ok (.putfield 22, 3) := by decide +kernel
theorem dX1_init_32 : decode cX1_init 32 = .ok (.aload_n 0, 1) := by decide +kernel
theorem dX1_init_33 : decode cX1_init 33 = .ok (.iconst 0, 1) := by decide +kernel
theorem dX1_init_34 : decode cX1_init 34 = .ok (.putfield 25, 3) := by decide +kernel
theorem dX1_init_37 : decode cX1_init 37 = .ok (.aload_n 0, 1) := by decide +kernel
theorem dX1_init_38 : decode cX1_init 38 = .ok (.iconst 0, 1) := by decide +kernel
theorem dX1_init_39 : decode cX1_init 39 = .ok (.putfield 28, 3) := by decide +kernel
theorem dX1_init_42 : decode cX1_init 42 = .ok (.aload_n 0, 1) := by decide +kernel
theorem dX1_init_43 : decode cX1_init 43 = .ok (.iconst (-1), 1) := by decide +kernel
theorem dX1_init_44 : decode cX1_init 44 = .ok (.putfield 31, 3) := by decide +kernel
theorem dX1_init_47 : decode cX1_init 47 = .ok (.return_, 1) := by decide +kernel
theorem dX1_draw_0 : decode cX1_draw 0 = .ok (.aload_n 0, 1) := by decide +kernel
theorem dX1_draw_1 : decode cX1_draw 1 = .ok (.aload_n 1, 1) := by decide +kernel
theorem dX1_draw_2 : decode cX1_draw 2 = .ok (.getfield 34, 3) := by decide +kernel
theorem dX1_draw_5 : decode cX1_draw 5 = .ok (.putfield 18, 3) := by decide +kernel
theorem dX1_draw_8 : decode cX1_draw 8 = .ok (.aload_n 0, 1) := by decide +kernel
theorem dX1_draw_9 : decode cX1_draw 9 = .ok (.aload_n 1, 1) := by decide +kernel
theorem dX1_draw_10 : decode cX1_draw 10 = .ok (.invokevirtual 37, 3) := by decide +kernel
theorem dX1_draw_13 : decode cX1_draw 13 = .ok (.putfield 25, 3) := by decide +kernel
theorem dX1_draw_16 : decode cX1_draw 16 = .ok (.aload_n 0, 1) := by decide +kernel
theorem dX1_draw_17 : decode cX1_draw 17 = .ok (.iconst 0, 1) := by decide +kernel
theorem dX1_draw_18 : decode cX1_draw 18 = .ok (.putfield 22, 3) := by decide +kernel
theorem dX1_draw_21 : decode cX1_draw 21 = .ok (.aload_n 0, 1) := by decide +kernel
theorem dX1_draw_22 : decode cX1_draw 22 = .ok (.getfield 18, 3) := by decide +kernel
theorem dX1_draw_25 : decode cX1_draw 25 = .ok (.invokestatic 41, 3) := by decide +kernel
theorem dX1_draw_28 : decode cX1_draw 28 = .ok (.istore_n 2, 1) := by decide +kernel
theorem dX1_draw_29 : decode cX1_draw 29 = .ok (.iload_n 2, 1) := by decide +kernel
theorem dX1_draw_30 : decode cX1_draw 30 = .ok (.ifCond .lt 45, 3) := by decide +kernel
theorem dX1_draw_33 : decode cX1_draw 33 = .ok (.aload_n 0, 1) := by decide +kernel
theorem dX1_draw_34 : decode cX1_draw 34 = .ok (.getfield 22, 3) := by decide +kernel
theorem dX1_draw_37 : decode cX1_draw 37 = .ok (.sipush 720, 3) := by decide +kernel
theorem dX1_draw_40 : decode cX1_draw 40 = .ok (.if_icmp .ge 35, 3) := by decide +kernel
theorem dX1_draw_43 : decode cX1_draw 43 = .ok (.aload_n 0, 1) := by decide +kernel
theorem dX1_draw_44 : decode cX1_draw 44 = .ok (.getfield 9, 3) := by decide +kernel
theorem dX1_draw_47 : decode cX1_draw 47 = .ok (.aload_n 0, 1) := by decide +kernel
theorem dX1_draw_48 : decode cX1_draw 48 = .ok (.getfield 22, 3) := by decide +kernel
theorem dX1_draw_51 : decode cX1_draw 51 = .ok (.iload_n 2, 1) := by decide +kernel
theorem dX1_draw_52 : decode cX1_draw 52 = .ok (.iastore, 1) := by decide +kernel
theorem dX1_draw_53 : decode cX1_draw 53 = .ok (.aload_n 0, 1) := by decide +kernel
theorem dX1_draw_54 : decode cX1_draw 54 = .ok (.dup, 1) := by decide +kernel
theorem dX1_draw_55 : decode cX1_draw 55 = .ok (.getfield 22, 3) := by decide +kernel
theorem dX1_draw_58 : decode cX1_draw 58 = .ok (.iconst 1, 1) := by decide +kernel
theorem dX1_draw_59 : decode cX1_draw 59 = .ok (.iadd, 1) := by decide +kernel
theorem dX1_draw_60 : decode cX1_draw 60 = .ok (.putfield 22, 3) := by decide +kernel
theorem dX1_draw_63 : decode cX1_draw 63 = .ok (.iload_n 2, 1) := by decide +kernel
theorem dX1_draw_64 : decode cX1_draw 64 = .ok (.aload_n 0, 1) := by decide +kernel
theorem dX1_draw_65 : decode cX1_draw 65 = .ok (.getfield 18, 3) := by decide +kernel
theorem dX1_draw_68 : decode cX1_draw 68 = .ok (.invokestatic 47, 3) := by decide +kernel
theorem dX1_draw_71 : decode cX1_draw 71 = .ok (.istore_n 2, 1) := by decide +kernel
theorem dX1_draw_72 : decode cX1_draw 72 = .ok (.goto (-43), 3) := by decide +kernel
theorem dX1_draw_75 : decode cX1_draw 75 = .ok (.iconst 0, 1) := by decide +kernel
theorem dX1_draw_76 : decode cX1_draw 76 = .ok (.istore_n 3, 1) := by decide +kernel
theorem dX1_draw_77 : decode cX1_draw 77 = .ok (.iload_n 3, 1) := by decide +kernel
theorem dX1_draw_78 : decode cX1_draw 78 = .ok (.aload_n 0, 1) := by decide +kernel
theorem dX1_draw_79 : decode cX1_draw 79 = .ok (.getfield 22, 3) := by decide +kernel
theorem dX1_draw_82 : decode cX1_draw 82 = .ok (.if_icmp .ge 15, 3) := by decide +kernel
theorem dX1_draw_85 : decode cX1_draw 85 = .ok (.aload_n 0, 1) := by decide +kernel
theorem dX1_draw_86 : decode cX1_draw 86 = .ok (.aload_n 1, 1) := by decide +kernel
theorem dX1_draw_87 : decode cX1_draw 87 = .ok (.iload_n 3, 1) := by decide +kernel
theorem dX1_draw_88 : decode cX1_draw 88 = .ok (.invokevirtual 51, 3) := by decide +kernel
theorem dX1_draw_91 : decode cX1_draw 91 = .ok (.iinc 3 1, 3) := by decide +kernel
theorem dX1_draw_94 : decode cX1_draw 94 = .ok (.goto (-17), 3) := by decide +kernel
theorem dX1_draw_97 : decode cX1_draw 97 = .ok (.aload_n 0, 1) := by decide +kernel
theorem dX1_draw_98 : decode cX1_draw 98 = .ok (.invokevirtual 55, 3) := by decide +kernel
theorem dX1_draw_101 : decode cX1_draw 101 = .ok (.return_, 1) := by decide +kernel
theorem dX1_drawEdges_0 : decode cX1_drawEdges 0 = .ok (.aload_n 0, 1) := by decide +kernel
theorem dX1_drawEdges_1 : decode cX1_drawEdges 1 = .ok (.getfield 9, 3) := by decide +kernel
theorem dX1_drawEdges_4 : decode cX1_drawEdges 4 = .ok (.iload_n 2, 1) := by decide +kernel
theorem dX1_drawEdges_5 : decode cX1_drawEdges 5 = .ok (.iaload, 1) := by decide +kernel
theorem dX1_drawEdges_6 : decode cX1_drawEdges 6 = .ok (.istore_n 3, 1) := by decide +kernel
theorem dX1_drawEdges_7 : decode cX1_drawEdges 7 = .ok (.iconst 0, 1) := by decide +kernel
theorem dX1_drawEdges_8 : decode cX1_drawEdges 8 = .ok (.istore 4, 2) := by decide +kernel
theorem dX1_drawEdges_10 : decode cX1_drawEdges 10 = .ok (.iload 4, 2) := by decide +kernel
theorem dX1_drawEdges_12 : decode cX1_drawEdges 12 = .ok (.aload_n 0, 1) := by decide +kernel
theorem dX1_drawEdges_13 : decode cX1_drawEdges 13 = .ok (.getfield 25, 3) := by decide +kernel
theorem dX1_drawEdges_16 : decode cX1_drawEdges 16 = .ok (.if_icmp .ge 93, 3) := by decide +kernel
theorem dX1_drawEdges_19 : decode cX1_drawEdges 19 = .ok (.aload_n 1, 1) := by decide +kernel
theorem dX1_drawEdges_20 : decode cX1_drawEdges 20 = .ok (.iload 4, 2) := by decide +kernel
theorem dX1_drawEdges_22 : decode cX1_drawEdges 22 = .ok (.invokevirtual 58, 3) := by decide +kernel
theorem dX1_drawEdges_25 : decode cX1_drawEdges 25 = .ok (.istore 5, 2) := by decide +kernel
theorem dX1_drawEdges_27 : decode cX1_drawEdges 27 = .ok (.aload_n 1, 1) := by decide +kernel
theorem dX1_drawEdges_28 : decode cX1_drawEdges 28 = .ok (.iload_n 3, 1) := by decide +kernel
theorem dX1_drawEdges_29 : decode cX1_drawEdges 29 = .ok (.iload 4, 2) := by decide +kernel
theorem dX1_drawEdges_31 : decode cX1_drawEdges 31 = .ok (.invokevirtual 61, 3) := by decide +kernel
theorem dX1_drawEdges_34 : decode cX1_drawEdges 34 = .ok (.istore 6, 2) := by decide +kernel
theorem dX1_drawEdges_36 : decode cX1_drawEdges 36 = .ok (.iload 6, 2) := by decide +kernel
theorem dX1_drawEdges_38 : decode cX1_drawEdges 38 = .ok (.aload_n 0, 1) := by decide +kernel
theorem dX1_drawEdges_39 : decode cX1_drawEdges 39 = .ok (.getfield 18, 3) := by decide +kernel
theorem dX1_drawEdges_42 : decode cX1_drawEdges 42 = .ok (.invokestatic 64, 3) := by decide +kernel
theorem dX1_drawEdges_45 : decode cX1_drawEdges 45 = .ok (.iconst 2, 1) := by decide +kernel
theorem dX1_drawEdges_46 : decode cX1_drawEdges 46 = .ok (.ishl, 1) := by decide +kernel
theorem dX1_drawEdges_47 : decode cX1_drawEdges 47 = .ok (.istore 7, 2) := by decide +kernel
theorem dX1_drawEdges_49 : decode cX1_drawEdges 49 = .ok (.aload_n 1, 1) := by decide +kernel
theorem dX1_drawEdges_50 : decode cX1_drawEdges 50 = .ok (.iload_n 3, 1) := by decide +kernel
theorem dX1_drawEdges_51 : decode cX1_drawEdges 51 = .ok (.iload 6, 2) := by decide +kernel
theorem dX1_drawEdges_53 : decode cX1_drawEdges 53 = .ok (.iload 4, 2) := by decide +kernel
theorem dX1_drawEdges_55 : decode cX1_drawEdges 55 = .ok (.iload 5, 2) := by decide +kernel
theorem dX1_drawEdges_57 : decode cX1_drawEdges 57 = .ok (.invokevirtual 67, 3) := by decide +kernel
theorem dX1_drawEdges_60 : decode cX1_drawEdges 60 = .ok (.ifCond .eq 9, 3) := by decide +kernel
theorem dX1_drawEdges_63 : decode cX1_drawEdges 63 = .ok (.iload 7, 2) := by decide +kernel
theorem dX1_drawEdges_65 : decode cX1_drawEdges 65 = .ok (.iconst 1, 1) := by decide +kernel
theorem dX1_drawEdges_66 : decode cX1_drawEdges 66 = .ok (.ior, 1) := by decide +kernel
theorem dX1_drawEdges_67 : decode cX1_drawEdges 67 = .ok (.istore 7, 2) := by decide +kernel
theorem dX1_drawEdges_69 : decode cX1_drawEdges 69 = .ok (.aload_n 1, 1) := by decide +kernel
theorem dX1_drawEdges_70 : decode cX1_drawEdges 70 = .ok (.iload_n 3, 1) := by decide +kernel
theorem dX1_drawEdges_71 : decode cX1_drawEdges 71 = .ok (.iload 6, 2) := by decide +kernel
theorem dX1_drawEdges_73 : decode cX1_drawEdges 73 = .ok (.iload 5, 2) := by decide +kernel
theorem dX1_drawEdges_75 : decode cX1_drawEdges 75 = .ok (.iload 4, 2) := by decide +kernel
theorem dX1_drawEdges_77 : decode cX1_drawEdges 77 = .ok (.invokevirtual 67, 3) := by decide +kernel
theorem dX1_drawEdges_80 : decode cX1_drawEdges 80 = .ok (.ifCond .eq 9, 3) := by decide +kernel
theorem dX1_drawEdges_83 : decode cX1_drawEdges 83 = .ok (.iload 7, 2) := by decide +kernel
theorem dX1_drawEdges_85 : decode cX1_drawEdges 85 = .ok (.iconst 2, 1) := by decide +kernel
theorem dX1_drawEdges_86 : decode cX1_drawEdges 86 = .ok (.ior, 1) := by decide +kernel
theorem dX1_drawEdges_87 : decode cX1_drawEdges 87 = .ok (.istore 7, 2) := by decide +kernel
theorem dX1_drawEdges_89 : decode cX1_drawEdges 89 = .ok (.aload_n 0, 1) := by decide +kernel
theorem dX1_drawEdges_90 : decode cX1_drawEdges 90 = .ok (.getfield 15, 3) := by decide +kernel
theorem dX1_drawEdges_93 : decode cX1_drawEdges 93 = .ok (.iload_n 2, 1) := by decide +kernel
theorem dX1_drawEdges_94 : decode cX1_drawEdges 94 = .ok (.bipush 6, 2) := by decide +kernel
theorem dX1_drawEdges_96 : decode cX1_drawEdges 96 = .ok (.imul, 1) := by decide +kernel
theorem dX1_drawEdges_97 : decode cX1_drawEdges 97 = .ok (.iload 4, 2) := by decide +kernel
theorem dX1_drawEdges_99 : decode cX1_drawEdges 99 = .ok (.iadd, 1) := by decide +kernel
theorem dX1_drawEdges_100 : decode cX1_drawEdges 100 = .ok (.iload 7, 2) := by decide +kernel
theorem dX1_drawEdges_102 : decode cX1_drawEdges 102 = .ok (.iastore, 1) := by decide +kernel
theorem dX1_drawEdges_103 : decode cX1_drawEdges 103 = .ok (.iinc 4 1, 3) := by decide +kernel
theorem dX1_drawEdges_106 : decode cX1_drawEdges 106 = .ok (.goto (-96), 3) := by decide +kernel
theorem dX1_drawEdges_109 : decode cX1_drawEdges 109 = .ok (.return_, 1) := by decide +kernel
theorem dX1_countRests_0 : decode cX1_countRests 0 = .ok (.aload_n 0, 1) := by decide +kernel
theorem dX1_countRests_1 : decode cX1_countRests 1 = .ok (.iconst 0, 1) := by decide +kernel
theorem dX1_countRests_2 : decode cX1_countRests 2 = .ok (.putfield 28, 3) := by decide +kernel
theorem dX1_countRests_5 : decode cX1_countRests 5 = .ok (.aload_n 0, 1) := by decide +kernel
theorem dX1_countRests_6 : decode cX1_countRests 6 = .ok (.iconst (-1), 1) := by decide +kernel
theorem dX1_countRests_7 : decode cX1_countRests 7 = .ok (.putfield 31, 3) := by decide +kernel
theorem dX1_countRests_10 : decode cX1_countRests 10 = .ok (.aload_n 0, 1) := by decide +kernel
theorem dX1_countRests_11 : decode cX1_countRests 11 = .ok (.getfield 22, 3) := by decide +kernel
theorem dX1_countRests_14 : decode cX1_countRests 14 = .ok (.iconst 1, 1) := by decide +kernel
theorem dX1_countRests_15 : decode cX1_countRests 15 = .ok (.isub, 1) := by decide +kernel
theorem dX1_countRests_16 : decode cX1_countRests 16 = .ok (.istore_n 1, 1) := by decide +kernel
theorem dX1_countRests_17 : decode cX1_countRests 17 = .ok (.iload_n 1, 1) := by decide +kernel
theorem dX1_countRests_18 : decode cX1_countRests 18 = .ok (.ifCond .lt 32, 3) := by decide +kernel
theorem dX1_countRests_21 : decode cX1_countRests 21 = .ok (.aload_n 0, 1) := by decide +kernel
theorem dX1_countRests_22 : decode cX1_countRests 22 = .ok (.iload_n 1, 1) := by decide +kernel
theorem dX1_countRests_23 : decode cX1_countRests 23 = .ok (.invokevirtual 71, 3) := by decide +kernel
theorem dX1_countRests_26 : decode cX1_countRests 26 = .ok (.ifCond .eq 18, 3) := by decide +kernel
theorem dX1_countRests_29 : decode cX1_countRests 29 = .ok (.aload_n 0, 1) := by decide +kernel
theorem dX1_countRests_30 : decode cX1_countRests 30 = .ok (.dup, 1) := by decide +kernel
theorem dX1_countRests_31 : decode cX1_countRests 31 = .ok (.getfield 28, 3) := by decide +kernel
theorem dX1_countRests_34 : decode cX1_countRests 34 = .ok (.iconst 1, 1) := by decide +kernel
theorem dX1_countRests_35 : decode cX1_countRests 35 = .ok (.iadd, 1) := by decide +kernel
theorem dX1_countRests_36 : decode cX1_countRests 36 = .ok (.putfield 28, 3) := by decide +kernel
theorem dX1_countRests_39 : decode cX1_countRests 39 = .ok (.aload_n 0, 1) := by decide +kernel
theorem dX1_countRests_40 : decode cX1_countRests 40 = .ok (.iload_n 1, 1) := by decide +kernel
theorem dX1_countRests_41 : decode cX1_countRests 41 = .ok (.putfield 31, 3) := by decide +kernel
theorem dX1_countRests_44 : decode cX1_countRests 44 = .ok (.iinc 1 (-1), 3) := by decide +kernel
theorem dX1_countRests_47 : decode cX1_countRests 47 = .ok (.goto (-30), 3) := by decide +kernel
theorem dX1_countRests_50 : decode cX1_countRests 50 = .ok (.return_, 1) := by decide +kernel
theorem dX1_rowOf_0 : decode cX1_rowOf 0 = .ok (.iload_n 1, 1) := by decide +kernel
theorem dX1_rowOf_1 : decode cX1_rowOf 1 = .ok (.ifCond .lt 20, 3) := by decide +kernel
theorem dX1_rowOf_4 : decode cX1_rowOf 4 = .ok (.iload_n 1, 1) := by decide +kernel
theorem dX1_rowOf_5 : decode cX1_rowOf 5 = .ok (.aload_n 0, 1) := by decide +kernel
theorem dX1_rowOf_6 : decode cX1_rowOf 6 = .ok (.getfield 22, 3) := by decide +kernel
theorem dX1_rowOf_9 : decode cX1_rowOf 9 = .ok (.if_icmp .ge 12, 3) := by decide +kernel
theorem dX1_rowOf_12 : decode cX1_rowOf 12 = .ok (.aload_n 0, 1) := by decide +kernel
theorem dX1_rowOf_13 : decode cX1_rowOf 13 = .ok (.getfield 9, 3) := by decide +kernel
theorem dX1_rowOf_16 : decode cX1_rowOf 16 = .ok (.iload_n 1, 1) := by decide +kernel
theorem dX1_rowOf_17 : decode cX1_rowOf 17 = .ok (.iaload, 1) := by decide +kernel
theorem dX1_rowOf_18 : decode cX1_rowOf 18 = .ok (.goto 4, 3) := by decide +kernel
theorem dX1_rowOf_21 : decode cX1_rowOf 21 = .ok (.iconst 0, 1) := by decide +kernel
theorem dX1_rowOf_22 : decode cX1_rowOf 22 = .ok (.ireturn, 1) := by decide +kernel
theorem dX1_stateOf_0 : decode cX1_stateOf 0 = .ok (.iload_n 1, 1) := by decide +kernel
theorem dX1_stateOf_1 : decode cX1_stateOf 1 = .ok (.aload_n 0, 1) := by decide +kernel
theorem dX1_stateOf_2 : decode cX1_stateOf 2 = .ok (.getfield 18, 3) := by decide +kernel
theorem dX1_stateOf_5 : decode cX1_stateOf 5 = .ok (.invokestatic 64, 3) := by decide +kernel
theorem dX1_stateOf_8 : decode cX1_stateOf 8 = .ok (.istore_n 2, 1) := by decide +kernel
theorem dX1_stateOf_9 : decode cX1_stateOf 9 = .ok (.iload_n 2, 1) := by decide +kernel
theorem dX1_stateOf_10 : decode cX1_stateOf 10 = .ok (.aload_n 0, 1) := by decide +kernel
theorem dX1_stateOf_11 : decode cX1_stateOf 11 = .ok (.getfield 22, 3) := by decide +kernel
theorem dX1_stateOf_14 : decode cX1_stateOf 14 = .ok (.if_icmp .ge 7, 3) := by decide +kernel
theorem dX1_stateOf_17 : decode cX1_stateOf 17 = .ok (.iload_n 2, 1) := by decide +kernel
theorem dX1_stateOf_18 : decode cX1_stateOf 18 = .ok (.goto 4, 3) := by decide +kernel
theorem dX1_stateOf_21 : decode cX1_stateOf 21 = .ok (.iconst 0, 1) := by decide +kernel
theorem dX1_stateOf_22 : decode cX1_stateOf 22 = .ok (.ireturn, 1) := by decide +kernel
theorem dX1_isRest_0 : decode cX1_isRest 0 = .ok (.iconst 0, 1) := by decide +kernel
theorem dX1_isRest_1 : decode cX1_isRest 1 = .ok (.istore_n 2, 1) := by decide +kernel
theorem dX1_isRest_2 : decode cX1_isRest 2 = .ok (.iload_n 2, 1) := by decide +kernel
theorem dX1_isRest_3 : decode cX1_isRest 3 = .ok (.aload_n 0, 1) := by decide +kernel
theorem dX1_isRest_4 : decode cX1_isRest 4 = .ok (.getfield 25, 3) := by decide +kernel
theorem dX1_isRest_7 : decode cX1_isRest 7 = .ok (.if_icmp .ge 21, 3) := by decide +kernel
theorem dX1_isRest_10 : decode cX1_isRest 10 = .ok (.aload_n 0, 1) := by decide +kernel
theorem dX1_isRest_11 : decode cX1_isRest 11 = .ok (.iload_n 1, 1) := by decide +kernel
theorem dX1_isRest_12 : decode cX1_isRest 12 = .ok (.iload_n 2, 1) := by decide +kernel
theorem dX1_isRest_13 : decode cX1_isRest 13 = .ok (.iconst (-1), 1) := by decide +kernel
theorem dX1_isRest_14 : decode cX1_isRest 14 = .ok (.invokevirtual 75, 3) := by decide +kernel
theorem dX1_isRest_17 : decode cX1_isRest 17 = .ok (.ifCond .lt 5, 3) := by decide +kernel
theorem dX1_isRest_20 : decode cX1_isRest 20 = .ok (.iconst 0, 1) := by decide +kernel
theorem dX1_isRest_21 : decode cX1_isRest 21 = .ok (.ireturn, 1) := by decide +kernel
theorem dX1_isRest_22 : decode cX1_isRest 22 = .ok (.iinc 2 1, 3) := by decide +kernel
theorem dX1_isRest_25 : decode cX1_isRest 25 = .ok (.goto (-23), 3) := by decide +kernel
theorem dX1_isRest_28 : decode cX1_isRest 28 = .ok (.iconst 1, 1) := by decide +kernel
theorem dX1_isRest_29 : decode cX1_isRest 29 = .ok (.ireturn, 1) := by decide +kernel
theorem dX1_leadsTo_0 : decode cX1_leadsTo 0 = .ok (.iload_n 1, 1) := by decide +kernel
theorem dX1_leadsTo_1 : decode cX1_leadsTo 1 = .ok (.ifCond .lt 23, 3) := by decide +kernel
theorem dX1_leadsTo_4 : decode cX1_leadsTo 4 = .ok (.iload_n 1, 1) := by decide +kernel
theorem dX1_leadsTo_5 : decode cX1_leadsTo 5 = .ok (.aload_n 0, 1) := by decide +kernel
theorem dX1_leadsTo_6 : decode cX1_leadsTo 6 = .ok (.getfield 22, 3) := by decide +kernel
theorem dX1_leadsTo_9 : decode cX1_leadsTo 9 = .ok (.if_icmp .ge 15, 3) := by decide +kernel
theorem dX1_leadsTo_12 : decode cX1_leadsTo 12 = .ok (.iload_n 2, 1) := by decide +kernel
theorem dX1_leadsTo_13 : decode cX1_leadsTo 13 = .ok (.ifCond .lt 11, 3) := by decide +kernel
theorem dX1_leadsTo_16 : decode cX1_leadsTo 16 = .ok (.iload_n 2, 1) := by decide +kernel
theorem dX1_leadsTo_17 : decode cX1_leadsTo 17 = .ok (.aload_n 0, 1) := by decide +kernel
theorem dX1_leadsTo_18 : decode cX1_leadsTo 18 = .ok (.getfield 25, 3) := by decide +kernel
theorem dX1_leadsTo_21 : decode cX1_leadsTo 21 = .ok (.if_icmp .lt 5, 3) := by decide +kernel
theorem dX1_leadsTo_24 : decode cX1_leadsTo 24 = .ok (.iconst (-1), 1) := by decide +kernel
theorem dX1_leadsTo_25 : decode cX1_leadsTo 25 = .ok (.ireturn, 1) := by decide +kernel
theorem dX1_leadsTo_26 : decode cX1_leadsTo 26 = .ok (.aload_n 0, 1) := by decide +kernel
theorem dX1_leadsTo_27 : decode cX1_leadsTo 27 = .ok (.getfield 15, 3) := by decide +kernel
theorem dX1_leadsTo_30 : decode cX1_leadsTo 30 = .ok (.iload_n 1, 1) := by decide +kernel
theorem dX1_leadsTo_31 : decode cX1_leadsTo 31 = .ok (.bipush 6, 2) := by decide +kernel
theorem dX1_leadsTo_33 : decode cX1_leadsTo 33 = .ok (.imul, 1) := by decide +kernel
theorem dX1_leadsTo_34 : decode cX1_leadsTo 34 = .ok (.iload_n 2, 1) := by decide +kernel
theorem dX1_leadsTo_35 : decode cX1_leadsTo 35 = .ok (.iadd, 1) := by decide +kernel
theorem dX1_leadsTo_36 : decode cX1_leadsTo 36 = .ok (.iaload, 1) := by decide +kernel
theorem dX1_leadsTo_37 : decode cX1_leadsTo 37 = .ok (.istore 4, 2) := by decide +kernel
theorem dX1_leadsTo_39 : decode cX1_leadsTo 39 = .ok (.iload 4, 2) := by decide +kernel
theorem dX1_leadsTo_41 : decode cX1_leadsTo 41 = .ok (.iconst 3, 1) := by decide +kernel
theorem dX1_leadsTo_42 : decode cX1_leadsTo 42 = .ok (.iand, 1) := by decide +kernel
theorem dX1_leadsTo_43 : decode cX1_leadsTo 43 = .ok (.istore 5, 2) := by decide +kernel
theorem dX1_leadsTo_45 : decode cX1_leadsTo 45 = .ok (.iload 5, 2) := by decide +kernel
theorem dX1_leadsTo_47 : decode cX1_leadsTo 47 = .ok (.iconst 3, 1) := by decide +kernel
theorem dX1_leadsTo_48 : decode cX1_leadsTo 48 = .ok (.if_icmp .eq 76, 3) := by decide +kernel
theorem dX1_leadsTo_51 : decode cX1_leadsTo 51 = .ok (.iload_n 3, 1) := by decide +kernel
theorem dX1_leadsTo_52 : decode cX1_leadsTo 52 = .ok (.iconst (-1), 1) := by decide +kernel
theorem dX1_leadsTo_53 : decode cX1_leadsTo 53 = .ok (.if_icmp .eq 71, 3) := by decide +kernel
theorem dX1_leadsTo_56 : decode cX1_leadsTo 56 = .ok (.iload_n 2, 1) := by decide +kernel
theorem dX1_leadsTo_57 : decode cX1_leadsTo 57 = .ok (.iconst 1, 1) := by decide +kernel
theorem dX1_leadsTo_58 : decode cX1_leadsTo 58 = .ok (.iadd, 1) := by decide +kernel
theorem dX1_leadsTo_59 : decode cX1_leadsTo 59 = .ok (.aload_n 0, 1) := by decide +kernel
theorem dX1_leadsTo_60 : decode cX1_leadsTo 60 = .ok (.getfield 18, 3) := by decide +kernel
theorem dX1_leadsTo_63 : decode cX1_leadsTo 63 = .ok (.if_icmp .ge 9, 3) := by decide +kernel
theorem dX1_leadsTo_66 : decode cX1_leadsTo 66 = .ok (.iload_n 2, 1) := by decide +kernel
theorem dX1_leadsTo_67 : decode cX1_leadsTo 67 = .ok (.iconst 1, 1) := by decide +kernel
theorem dX1_leadsTo_68 : decode cX1_leadsTo 68 = .ok (.iadd, 1) := by decide +kernel
theorem dX1_leadsTo_69 : decode cX1_leadsTo 69 = .ok (.goto 4, 3) := by decide +kernel
theorem dX1_leadsTo_72 : decode cX1_leadsTo 72 = .ok (.iconst 0, 1) := by decide +kernel
theorem dX1_leadsTo_73 : decode cX1_leadsTo 73 = .ok (.istore 6, 2) := by decide +kernel
theorem dX1_leadsTo_75 : decode cX1_leadsTo 75 = .ok (.iload 5, 2) := by decide +kernel
theorem dX1_leadsTo_77 : decode cX1_leadsTo 77 = .ok (.aload_n 0, 1) := by decide +kernel
theorem dX1_leadsTo_78 : decode cX1_leadsTo 78 = .ok (.getfield 9, 3) := by decide +kernel
theorem dX1_leadsTo_81 : decode cX1_leadsTo 81 = .ok (.iload_n 1, 1) := by decide +kernel
theorem dX1_leadsTo_82 : decode cX1_leadsTo 82 = .ok (.iaload, 1) := by decide +kernel
theorem dX1_leadsTo_83 : decode cX1_leadsTo 83 = .ok (.iload_n 2, 1) := by decide +kernel
theorem dX1_leadsTo_84 : decode cX1_leadsTo 84 = .ok (.invokestatic 79, 3) := by decide +kernel
theorem dX1_leadsTo_87 : decode cX1_leadsTo 87 = .ok (.iload_n 3, 1) := by decide +kernel
theorem dX1_leadsTo_88 : decode cX1_leadsTo 88 = .ok (.if_icmp .ne 7, 3) := by decide +kernel
theorem dX1_leadsTo_91 : decode cX1_leadsTo 91 = .ok (.iconst 1, 1) := by decide +kernel
theorem dX1_leadsTo_92 : decode cX1_leadsTo 92 = .ok (.goto 4, 3) := by decide +kernel
theorem dX1_leadsTo_95 : decode cX1_leadsTo 95 = .ok (.iconst 0, 1) := by decide +kernel
theorem dX1_leadsTo_96 : decode cX1_leadsTo 96 = .ok (.ior, 1) := by decide +kernel
theorem dX1_leadsTo_97 : decode cX1_leadsTo 97 = .ok (.istore 5, 2) := by decide +kernel
theorem dX1_leadsTo_99 : decode cX1_leadsTo 99 = .ok (.iload 5, 2) := by decide +kernel
theorem dX1_leadsTo_101 : decode cX1_leadsTo 101 = .ok (.aload_n 0, 1) := by decide +kernel
theorem dX1_leadsTo_102 : decode cX1_leadsTo 102 = .ok (.getfield 9, 3) := by decide +kernel
theorem dX1_leadsTo_105 : decode cX1_leadsTo 105 = .ok (.iload_n 1, 1) := by decide +kernel
theorem dX1_leadsTo_106 : decode cX1_leadsTo 106 = .ok (.iaload, 1) := by decide +kernel
theorem dX1_leadsTo_107 : decode cX1_leadsTo 107 = .ok (.iload 6, 2) := by decide +kernel
theorem dX1_leadsTo_109 : decode cX1_leadsTo 109 = .ok (.invokestatic 79, 3) := by decide +kernel
theorem dX1_leadsTo_112 : decode cX1_leadsTo 112 = .ok (.iload_n 3, 1) := by decide +kernel
theorem dX1_leadsTo_113 : decode cX1_leadsTo 113 = .ok (.if_icmp .ne 7, 3) := by decide +kernel
theorem dX1_leadsTo_116 : decode cX1_leadsTo 116 = .ok (.iconst 2, 1) := by decide +kernel
theorem dX1_leadsTo_117 : decode cX1_leadsTo 117 = .ok (.goto 4, 3) := by decide +kernel
theorem dX1_leadsTo_120 : decode cX1_leadsTo 120 = .ok (.iconst 0, 1) := by decide +kernel
theorem dX1_leadsTo_121 : decode cX1_leadsTo 121 = .ok (.ior, 1) := by decide +kernel
theorem dX1_leadsTo_122 : decode cX1_leadsTo 122 = .ok (.istore 5, 2) := by decide +kernel
theorem dX1_leadsTo_124 : decode cX1_leadsTo 124 = .ok (.iload 4, 2) := by decide +kernel
theorem dX1_leadsTo_126 : decode cX1_leadsTo 126 = .ok (.iconst 2, 1) := by decide +kernel
theorem dX1_leadsTo_127 : decode cX1_leadsTo 127 = .ok (.ishr, 1) := by decide +kernel
theorem dX1_leadsTo_128 : decode cX1_leadsTo 128 = .ok (.istore 6, 2) := by decide +kernel
theorem dX1_leadsTo_130 : decode cX1_leadsTo 130 = .ok (.iload 5, 2) := by decide +kernel
theorem dX1_leadsTo_132 : decode cX1_leadsTo 132 = .ok (.iconst 3, 1) := by decide +kernel
theorem dX1_leadsTo_133 : decode cX1_leadsTo 133 = .ok (.if_icmp .ne 17, 3) := by decide +kernel
theorem dX1_leadsTo_136 : decode cX1_leadsTo 136 = .ok (.iload 6, 2) := by decide +kernel
theorem dX1_leadsTo_138 : decode cX1_leadsTo 138 = .ok (.aload_n 0, 1) := by decide +kernel
theorem dX1_leadsTo_139 : decode cX1_leadsTo 139 = .ok (.getfield 22, 3) := by decide +kernel
theorem dX1_leadsTo_142 : decode cX1_leadsTo 142 = .ok (.if_icmp .ge 8, 3) := by decide +kernel
theorem dX1_leadsTo_145 : decode cX1_leadsTo 145 = .ok (.iload 6, 2) := by decide +kernel
theorem dX1_leadsTo_147 : decode cX1_leadsTo 147 = .ok (.goto 4, 3) := by decide +kernel
theorem dX1_leadsTo_150 : decode cX1_leadsTo 150 = .ok (.iconst (-1), 1) := by decide +kernel
theorem dX1_leadsTo_151 : decode cX1_leadsTo 151 = .ok (.ireturn, 1) := by decide +kernel
theorem dX5_init_0 : decode cX5_init 0 = .ok (.aload_n 0, 1) := by decide +kernel
theorem dX5_init_1 : decode cX5_init 1 = .ok (.invokespecial 3, 3) := by decide +kernel
theorem dX5_init_4 : decode cX5_init 4 = .ok (.aload_n 0, 1) := by decide +kernel
theorem dX5_init_5 : decode cX5_init 5 = .ok (.sipush 720, 3) := by decide +kernel
theorem dX5_init_8 : decode cX5_init 8 = .ok (.newarray .int, 2) := by decide +kernel
theorem dX5_init_10 : decode cX5_init 10 = .ok (.putfield 9, 3) := by decide +kernel
theorem dX5_init_13 : decode cX5_init 13 = .ok (.aload_n 0, 1) := by decide +kernel
theorem dX5_init_14 : decode cX5_init 14 = .ok (.sipush 720, 3) := by decide +kernel
theorem dX5_init_17 : decode cX5_init 17 = .ok (.newarray .int, 2) := by decide +kernel
theorem dX5_init_19 : decode cX5_init 19 = .ok (.putfield 15, 3) := by decide +kernel
theorem dX5_init_22 : decode cX5_init 22 = .ok (.aload_n 0, 1) := by decide +kernel
theorem dX5_init_23 : decode cX5_init 23 = .ok (.sipush 720, 3) := by decide +kernel
theorem dX5_init_26 : decode cX5_init 26 = .ok (.newarray .int, 2) := by decide +kernel
theorem dX5_init_28 : decode cX5_init 28 = .ok (.putfield 18, 3) := by decide +kernel
theorem dX5_init_31 : decode cX5_init 31 = .ok (.aload_n 0, 1) := by decide +kernel
theorem dX5_init_32 : decode cX5_init 32 = .ok (.sipush 720, 3) := by decide +kernel
theorem dX5_init_35 : decode cX5_init 35 = .ok (.newarray .int, 2) := by decide +kernel
theorem dX5_init_37 : decode cX5_init 37 = .ok (.putfield 21, 3) := by decide +kernel
theorem dX5_init_40 : decode cX5_init 40 = .ok (.aload_n 0, 1) := by decide +kernel
theorem dX5_init_41 : decode cX5_init 41 = .ok (.iconst 0, 1) := by decide +kernel
theorem dX5_init_42 : decode cX5_init 42 = .ok (.putfield 24, 3) := by decide +kernel
theorem dX5_init_45 : decode cX5_init 45 = .ok (.return_, 1) := by decide +kernel
theorem dX5_spread_0 : decode cX5_spread 0 = .ok (.aload_n 0, 1) := by decide +kernel
theorem dX5_spread_1 : decode cX5_spread 1 = .ok (.getfield 15, 3) := by decide +kernel
theorem dX5_spread_4 : decode cX5_spread 4 = .ok (.iconst (-1), 1) := by decide +kernel
theorem dX5_spread_5 : decode cX5_spread 5 = .ok (.invokestatic 28, 3) := by decide +kernel
theorem dX5_spread_8 : decode cX5_spread 8 = .ok (.aload_n 0, 1) := by decide +kernel
theorem dX5_spread_9 : decode cX5_spread 9 = .ok (.iconst 0, 1) := by decide +kernel
theorem dX5_spread_10 : decode cX5_spread 10 = .ok (.putfield 24, 3) := by decide +kernel
theorem dX5_spread_13 : decode cX5_spread 13 = .ok (.aload_n 0, 1) := by decide +kernel
theorem dX5_spread_14 : decode cX5_spread 14 = .ok (.iload_n 2, 1) := by decide +kernel
theorem dX5_spread_15 : decode cX5_spread 15 = .ok (.iconst 0, 1) := by decide +kernel
theorem dX5_spread_16 : decode cX5_spread 16 = .ok (.iconst 0, 1) := by decide +kernel
theorem dX5_spread_17 : decode cX5_spread 17 = .ok (.invokevirtual 34, 3) := by decide +kernel
theorem dX5_spread_20 : decode cX5_spread 20 = .ok (.iconst 0, 1) := by decide +kernel
theorem dX5_spread_21 : decode cX5_spread 21 = .ok (.istore 4, 2) := by decide +kernel
theorem dX5_spread_23 : decode cX5_spread 23 = .ok (.iload 4, 2) := by decide +kernel
theorem dX5_spread_25 : decode cX5_spread 25 = .ok (.aload_n 0, 1) := by decide +kernel
theorem dX5_spread_26 : decode cX5_spread 26 = .ok (.getfield 24, 3) := by decide +kernel
theorem dX5_spread_29 : decode cX5_spread 29 = .ok (.if_icmp .ge 83, 3) := by decide +kernel
theorem dX5_spread_32 : decode cX5_spread 32 = .ok (.iload 4, 2) := by decide +kernel
theorem dX5_spread_34 : decode cX5_spread 34 = .ok (.sipush 720, 3) := by decide +kernel
theorem dX5_spread_37 : decode cX5_spread 37 = .ok (.if_icmp .ge 75, 3) := by decide +kernel
theorem dX5_spread_40 : decode cX5_spread 40 = .ok (.aload_n 0, 1) := by decide +kernel
theorem dX5_spread_41 : decode cX5_spread 41 = .ok (.getfield 9, 3) := by decide +kernel
theorem dX5_spread_44 : decode cX5_spread 44 = .ok (.iload 4, 2) := by decide +kernel
theorem dX5_spread_46 : decode cX5_spread 46 = .ok (.iaload, 1) := by decide +kernel
theorem dX5_spread_47 : decode cX5_spread 47 = .ok (.istore 5, 2) := by decide +kernel
theorem dX5_spread_49 : decode cX5_spread 49 = .ok (.iconst 0, 1) := by decide +kernel
theorem dX5_spread_50 : decode cX5_spread 50 = .ok (.istore 6, 2) := by decide +kernel
theorem dX5_spread_52 : decode cX5_spread 52 = .ok (.iload 6, 2) := by decide +kernel
theorem dX5_spread_54 : decode cX5_spread 54 = .ok (.aload_n 1, 1) := by decide +kernel
theorem dX5_spread_55 : decode cX5_spread 55 = .ok (.getfield 38, 3) := by decide +kernel
theorem dX5_spread_58 : decode cX5_spread 58 = .ok (.if_icmp .ge 48, 3) := by decide +kernel
theorem dX5_spread_61 : decode cX5_spread 61 = .ok (.aload_n 0, 1) := by decide +kernel
theorem dX5_spread_62 : decode cX5_spread 62 = .ok (.aload_n 1, 1) := by decide +kernel
theorem dX5_spread_63 : decode cX5_spread 63 = .ok (.iload 5, 2) := by decide +kernel
theorem dX5_spread_65 : decode cX5_spread 65 = .ok (.iload 6, 2) := by decide +kernel
theorem dX5_spread_67 : decode cX5_spread 67 = .ok (.iload_n 3, 1) := by decide +kernel
theorem dX5_spread_68 : decode cX5_spread 68 = .ok (.invokevirtual 43, 3) := by decide +kernel
theorem dX5_spread_71 : decode cX5_spread 71 = .ok (.aload_n 0, 1) := by decide +kernel
theorem dX5_spread_72 : decode cX5_spread 72 = .ok (.getfield 15, 3) := by decide +kernel
theorem dX5_spread_75 : decode cX5_spread 75 = .ok (.iload 5, 2) := by decide +kernel
theorem dX5_spread_77 : decode cX5_spread 77 = .ok (.iaload, 1) := by decide +kernel
theorem dX5_spread_78 : decode cX5_spread 78 = .ok (.iconst 1, 1) := by decide +kernel
theorem dX5_spread_79 : decode cX5_spread 79 = .ok (.iadd, 1) := by decide +kernel
theorem dX5_spread_80 : decode cX5_spread 80 = .ok (.iload 4, 2) := by decide +kernel
theorem dX5_spread_82 : decode cX5_spread 82 = .ok (.ifCond .ne 8, 3) := by decide +kernel
theorem dX5_spread_85 : decode cX5_spread 85 = .ok (.iload 6, 2) := by decide +kernel
theorem dX5_spread_87 : decode cX5_spread 87 = .ok (.goto 10, 3) := by decide +kernel
theorem dX5_spread_90 : decode cX5_spread 90 = .ok (.aload_n 0, 1) := by decide +kernel
theorem dX5_spread_91 : decode cX5_spread 91 = .ok (.getfield 18, 3) := by decide +kernel
theorem dX5_spread_94 : decode cX5_spread 94 = .ok (.iload 5, 2) := by decide +kernel
theorem dX5_spread_96 : decode cX5_spread 96 = .ok (.iaload, 1) := by decide +kernel
theorem dX5_spread_97 : decode cX5_spread 97 = .ok (.invokevirtual 34, 3) := by decide +kernel
theorem dX5_spread_100 : decode cX5_spread 100 = .ok (.iinc 6 1, 3) := by decide +kernel
theorem dX5_spread_103 : decode cX5_spread 103 = .ok (.goto (-51), 3) := by decide +kernel
theorem dX5_spread_106 : decode cX5_spread 106 = .ok (.iinc 4 1, 3) := by decide +kernel
theorem dX5_spread_109 : decode cX5_spread 109 = .ok (.goto (-86), 3) := by decide +kernel
theorem dX5_spread_112 : decode cX5_spread 112 = .ok (.return_, 1) := by decide +kernel
theorem dX5_reach_0 : decode cX5_reach 0 = .ok (.iload_n 1, 1) := by decide +kernel
theorem dX5_reach_1 : decode cX5_reach 1 = .ok (.ifCond .lt 63, 3) := by decide +kernel
theorem dX5_reach_4 : decode cX5_reach 4 = .ok (.iload_n 1, 1) := by decide +kernel
theorem dX5_reach_5 : decode cX5_reach 5 = .ok (.sipush 720, 3) := by decide +kernel
theorem dX5_reach_8 : decode cX5_reach 8 = .ok (.if_icmp .ge 56, 3) := by decide +kernel
theorem dX5_reach_11 : decode cX5_reach 11 = .ok (.aload_n 0, 1) := by decide +kernel
theorem dX5_reach_12 : decode cX5_reach 12 = .ok (.getfield 15, 3) := by decide +kernel
theorem dX5_reach_15 : decode cX5_reach 15 = .ok (.iload_n 1, 1) := by decide +kernel
theorem dX5_reach_16 : decode cX5_reach 16 = .ok (.iaload, 1) := by decide +kernel
theorem dX5_reach_17 : decode cX5_reach 17 = .ok (.ifCond .ge 47, 3) := by decide +kernel
theorem dX5_reach_20 : decode cX5_reach 20 = .ok (.aload_n 0, 1) := by decide +kernel
theorem dX5_reach_21 : decode cX5_reach 21 = .ok (.getfield 24, 3) := by decide +kernel
theorem dX5_reach_24 : decode cX5_reach 24 = .ok (.sipush 720, 3) := by decide +kernel
theorem dX5_reach_27 : decode cX5_reach 27 = .ok (.if_icmp .ge 37, 3) := by decide +kernel
theorem dX5_reach_30 : decode cX5_reach 30 = .ok (.aload_n 0, 1) := by decide +kernel
theorem dX5_reach_31 : decode cX5_reach 31 = .ok (.getfield 15, 3) := by decide +kernel
theorem dX5_reach_34 : decode cX5_reach 34 = .ok (.iload_n 1, 1) := by decide +kernel
theorem dX5_reach_35 : decode cX5_reach 35 = .ok (.iload_n 2, 1) := by decide +kernel
theorem dX5_reach_36 : decode cX5_reach 36 = .ok (.iastore, 1) := by decide +kernel
theorem dX5_reach_37 : decode cX5_reach 37 = .ok (.aload_n 0, 1) := by decide +kernel
theorem dX5_reach_38 : decode cX5_reach 38 = .ok (.getfield 18, 3) := by decide +kernel
theorem dX5_reach_41 : decode cX5_reach 41 = .ok (.iload_n 1, 1) := by decide +kernel
theorem dX5_reach_42 : decode cX5_reach 42 = .ok (.iload_n 3, 1) := by decide +kernel
theorem dX5_reach_43 : decode cX5_reach 43 = .ok (.iastore, 1) := by decide +kernel
theorem dX5_reach_44 : decode cX5_reach 44 = .ok (.aload_n 0, 1) := by decide +kernel
theorem dX5_reach_45 : decode cX5_reach 45 = .ok (.getfield 9, 3) := by decide +kernel
theorem dX5_reach_48 : decode cX5_reach 48 = .ok (.aload_n 0, 1) := by decide +kernel
theorem dX5_reach_49 : decode cX5_reach 49 = .ok (.getfield 24, 3) := by decide +kernel
theorem dX5_reach_52 : decode cX5_reach 52 = .ok (.iload_n 1, 1) := by decide +kernel
theorem dX5_reach_53 : decode cX5_reach 53 = .ok (.iastore, 1) := by decide +kernel
theorem dX5_reach_54 : decode cX5_reach 54 = .ok (.aload_n 0, 1) := by decide +kernel
theorem dX5_reach_55 : decode cX5_reach 55 = .ok (.dup, 1) := by decide +kernel
theorem dX5_reach_56 : decode cX5_reach 56 = .ok (.getfield 24, 3) := by decide +kernel
theorem dX5_reach_59 : decode cX5_reach 59 = .ok (.iconst 1, 1) := by decide +kernel
theorem dX5_reach_60 : decode cX5_reach 60 = .ok (.iadd, 1) := by decide +kernel
theorem dX5_reach_61 : decode cX5_reach 61 = .ok (.putfield 24, 3) := by decide +kernel
theorem dX5_reach_64 : decode cX5_reach 64 = .ok (.return_, 1) := by decide +kernel
theorem dX5_stepsTo_0 : decode cX5_stepsTo 0 = .ok (.iload_n 1, 1) := by decide +kernel
theorem dX5_stepsTo_1 : decode cX5_stepsTo 1 = .ok (.ifCond .lt 19, 3) := by decide +kernel
theorem dX5_stepsTo_4 : decode cX5_stepsTo 4 = .ok (.iload_n 1, 1) := by decide +kernel
theorem dX5_stepsTo_5 : decode cX5_stepsTo 5 = .ok (.sipush 720, 3) := by decide +kernel
theorem dX5_stepsTo_8 : decode cX5_stepsTo 8 = .ok (.if_icmp .ge 12, 3) := by decide +kernel
theorem dX5_stepsTo_11 : decode cX5_stepsTo 11 = .ok (.aload_n 0, 1) := by decide +kernel
theorem dX5_stepsTo_12 : decode cX5_stepsTo 12 = .ok (.getfield 15, 3) := by decide +kernel
theorem dX5_stepsTo_15 : decode cX5_stepsTo 15 = .ok (.iload_n 1, 1) := by decide +kernel
theorem dX5_stepsTo_16 : decode cX5_stepsTo 16 = .ok (.iaload, 1) := by decide +kernel
theorem dX5_stepsTo_17 : decode cX5_stepsTo 17 = .ok (.goto 4, 3) := by decide +kernel
theorem dX5_stepsTo_20 : decode cX5_stepsTo 20 = .ok (.iconst (-1), 1) := by decide +kernel
theorem dX5_stepsTo_21 : decode cX5_stepsTo 21 = .ok (.ireturn, 1) := by decide +kernel
theorem dX5_firstTo_0 : decode cX5_firstTo 0 = .ok (.iload_n 1, 1) := by decide +kernel
theorem dX5_firstTo_1 : decode cX5_firstTo 1 = .ok (.ifCond .lt 19, 3) := by decide +kernel
theorem dX5_firstTo_4 : decode cX5_firstTo 4 = .ok (.iload_n 1, 1) := by decide +kernel
theorem dX5_firstTo_5 : decode cX5_firstTo 5 = .ok (.sipush 720, 3) := by decide +kernel
theorem dX5_firstTo_8 : decode cX5_firstTo 8 = .ok (.if_icmp .ge 12, 3) := by decide +kernel
theorem dX5_firstTo_11 : decode cX5_firstTo 11 = .ok (.aload_n 0, 1) := by decide +kernel
theorem dX5_firstTo_12 : decode cX5_firstTo 12 = .ok (.getfield 18, 3) := by decide +kernel
theorem dX5_firstTo_15 : decode cX5_firstTo 15 = .ok (.iload_n 1, 1) := by decide +kernel
theorem dX5_firstTo_16 : decode cX5_firstTo 16 = .ok (.iaload, 1) := by decide +kernel
theorem dX5_firstTo_17 : decode cX5_firstTo 17 = .ok (.goto 4, 3) := by decide +kernel
theorem dX5_firstTo_20 : decode cX5_firstTo 20 = .ok (.iconst (-1), 1) := by decide +kernel
theorem dX5_firstTo_21 : decode cX5_firstTo 21 = .ok (.ireturn, 1) := by decide +kernel
theorem dX5_nearestRest_0 : decode cX5_nearestRest 0 = .ok (.iconst 0, 1) := by decide +kernel
theorem dX5_nearestRest_1 : decode cX5_nearestRest 1 = .ok (.istore_n 2, 1) := by decide +kernel
theorem dX5_nearestRest_2 : decode cX5_nearestRest 2 = .ok (.iload_n 2, 1) := by decide +kernel
theorem dX5_nearestRest_3 : decode cX5_nearestRest 3 = .ok (.aload_n 0, 1) := by decide +kernel
theorem dX5_nearestRest_4 : decode cX5_nearestRest 4 = .ok (.getfield 24, 3) := by decide +kernel
theorem dX5_nearestRest_7 : decode cX5_nearestRest 7 = .ok (.if_icmp .ge 29, 3) := by decide +kernel
theorem dX5_nearestRest_10 : decode cX5_nearestRest 10 = .ok (.aload_n 1, 1) := by decide +kernel
theorem dX5_nearestRest_11 : decode cX5_nearestRest 11 = .ok (.aload_n 0, 1) := by decide +kernel
theorem dX5_nearestRest_12 : decode cX5_nearestRest 12 = .ok (.getfield 9, 3) := by decide +kernel
theorem dX5_nearestRest_15 : decode cX5_nearestRest 15 = .ok (.iload_n 2, 1) := by decide +kernel
theorem dX5_nearestRest_16 : decode cX5_nearestRest 16 = .ok (.iaload, 1) := by decide +kernel
theorem dX5_nearestRest_17 : decode cX5_nearestRest 17 = .ok (.invokevirtual 47, 3) := by decide +kernel
theorem dX5_nearestRest_20 : decode cX5_nearestRest 20 = .ok (.ifCond .eq 10, 3) := by decide +kernel
theorem dX5_nearestRest_23 : decode cX5_nearestRest 23 = .ok (.aload_n 0, 1) := by decide +kernel
theorem dX5_nearestRest_24 : decode cX5_nearestRest 24 = .ok (.getfield 9, 3) := by decide +kernel
theorem dX5_nearestRest_27 : decode cX5_nearestRest 27 = .ok (.iload_n 2, 1) := by decide +kernel
theorem dX5_nearestRest_28 : decode cX5_nearestRest 28 = .ok (.iaload, 1) := by decide +kernel
theorem dX5_nearestRest_29 : decode cX5_nearestRest 29 = .ok (.ireturn, 1) := by decide +kernel
theorem dX5_nearestRest_30 : decode cX5_nearestRest 30 = .ok (.iinc 2 1, 3) := by decide +kernel
theorem dX5_nearestRest_33 : decode cX5_nearestRest 33 = .ok (.goto (-31), 3) := by decide +kernel
theorem dX5_nearestRest_36 : decode cX5_nearestRest 36 = .ok (.iconst (-1), 1) := by decide +kernel
theorem dX5_nearestRest_37 : decode cX5_nearestRest 37 = .ok (.ireturn, 1) := by decide +kernel
theorem dX5_nearestWith_0 : decode cX5_nearestWith 0 = .ok (.iconst 0, 1) := by decide +kernel
theorem dX5_nearestWith_1 : decode cX5_nearestWith 1 = .ok (.istore 4, 2) := by decide +kernel
theorem dX5_nearestWith_3 : decode cX5_nearestWith 3 = .ok (.iload 4, 2) := by decide +kernel
theorem dX5_nearestWith_5 : decode cX5_nearestWith 5 = .ok (.aload_n 0, 1) := by decide +kernel
theorem dX5_nearestWith_6 : decode cX5_nearestWith 6 = .ok (.getfield 24, 3) := by decide +kernel
theorem dX5_nearestWith_9 : decode cX5_nearestWith 9 = .ok (.if_icmp .ge 36, 3) := by decide +kernel
theorem dX5_nearestWith_12 : decode cX5_nearestWith 12 = .ok (.aload_n 1, 1) := by decide +kernel
theorem dX5_nearestWith_13 : decode cX5_nearestWith 13 = .ok (.aload_n 0, 1) := by decide +kernel
theorem dX5_nearestWith_14 : decode cX5_nearestWith 14 = .ok (.getfield 9, 3) := by decide +kernel
theorem dX5_nearestWith_17 : decode cX5_nearestWith 17 = .ok (.iload 4, 2) := by decide +kernel
theorem dX5_nearestWith_19 : decode cX5_nearestWith 19 = .ok (.iaload, 1) := by decide +kernel
theorem dX5_nearestWith_20 : decode cX5_nearestWith 20 = .ok (.invokevirtual 51, 3) := by decide +kernel
theorem dX5_nearestWith_23 : decode cX5_nearestWith 23 = .ok (.iload_n 3, 1) := by decide +kernel
theorem dX5_nearestWith_24 : decode cX5_nearestWith 24 = .ok (.invokestatic 55, 3) := by decide +kernel
theorem dX5_nearestWith_27 : decode cX5_nearestWith 27 = .ok (.iload_n 2, 1) := by decide +kernel
theorem dX5_nearestWith_28 : decode cX5_nearestWith 28 = .ok (.if_icmp .ne 11, 3) := by decide +kernel
theorem dX5_nearestWith_31 : decode cX5_nearestWith 31 = .ok (.aload_n 0, 1) := by decide +kernel
theorem dX5_nearestWith_32 : decode cX5_nearestWith 32 = .ok (.getfield 9, 3) := by decide +kernel
theorem dX5_nearestWith_35 : decode cX5_nearestWith 35 = .ok (.iload 4, 2) := by decide +kernel
theorem dX5_nearestWith_37 : decode cX5_nearestWith 37 = .ok (.iaload, 1) := by decide +kernel
theorem dX5_nearestWith_38 : decode cX5_nearestWith 38 = .ok (.ireturn, 1) := by decide +kernel
theorem dX5_nearestWith_39 : decode cX5_nearestWith 39 = .ok (.iinc 4 1, 3) := by decide +kernel
theorem dX5_nearestWith_42 : decode cX5_nearestWith 42 = .ok (.goto (-39), 3) := by decide +kernel
theorem dX5_nearestWith_45 : decode cX5_nearestWith 45 = .ok (.iconst (-1), 1) := by decide +kernel
theorem dX5_nearestWith_46 : decode cX5_nearestWith 46 = .ok (.ireturn, 1) := by decide +kernel
theorem dX5_longestFrom_0 : decode cX5_longestFrom 0 = .ok (.aload_n 0, 1) := by decide +kernel
theorem dX5_longestFrom_1 : decode cX5_longestFrom 1 = .ok (.aload_n 1, 1) := by decide +kernel
theorem dX5_longestFrom_2 : decode cX5_longestFrom 2 = .ok (.iload_n 2, 1) := by decide +kernel
theorem dX5_longestFrom_3 : decode cX5_longestFrom 3 = .ok (.iconst (-1), 1) := by decide +kernel
theorem dX5_longestFrom_4 : decode cX5_longestFrom 4 = .ok (.invokevirtual 61, 3) := by decide +kernel
theorem dX5_longestFrom_7 : decode cX5_longestFrom 7 = .ok (.aload_n 0, 1) := by decide +kernel
theorem dX5_longestFrom_8 : decode cX5_longestFrom 8 = .ok (.aload_n 1, 1) := by decide +kernel
theorem dX5_longestFrom_9 : decode cX5_longestFrom 9 = .ok (.invokevirtual 65, 3) := by decide +kernel
theorem dX5_longestFrom_12 : decode cX5_longestFrom 12 = .ok (.aload_n 0, 1) := by decide +kernel
theorem dX5_longestFrom_13 : decode cX5_longestFrom 13 = .ok (.getfield 24, 3) := by decide +kernel
theorem dX5_longestFrom_16 : decode cX5_longestFrom 16 = .ok (.istore_n 3, 1) := by decide +kernel
theorem dX5_longestFrom_17 : decode cX5_longestFrom 17 = .ok (.iconst 0, 1) := by decide +kernel
theorem dX5_longestFrom_18 : decode cX5_longestFrom 18 = .ok (.istore 4, 2) := by decide +kernel
theorem dX5_longestFrom_20 : decode cX5_longestFrom 20 = .ok (.aload_n 0, 1) := by decide +kernel
theorem dX5_longestFrom_21 : decode cX5_longestFrom 21 = .ok (.iload_n 3, 1) := by decide +kernel
theorem dX5_longestFrom_22 : decode cX5_longestFrom 22 = .ok (.ifCond .le 21, 3) := by decide +kernel
theorem dX5_longestFrom_25 : decode cX5_longestFrom 25 = .ok (.aload_n 0, 1) := by decide +kernel
theorem dX5_longestFrom_26 : decode cX5_longestFrom 26 = .ok (.getfield 21, 3) := by decide +kernel
theorem dX5_longestFrom_29 : decode cX5_longestFrom 29 = .ok (.aload_n 0, 1) := by decide +kernel
theorem dX5_longestFrom_30 : decode cX5_longestFrom 30 = .ok (.getfield 9, 3) := by decide +kernel
theorem dX5_longestFrom_33 : decode cX5_longestFrom 33 = .ok (.iconst 0, 1) := by decide +kernel
theorem dX5_longestFrom_34 : decode cX5_longestFrom 34 = .ok (.iaload, 1) := by decide +kernel
theorem dX5_longestFrom_35 : decode cX5_longestFrom 35 = .ok (.iaload, 1) := by decide +kernel
theorem dX5_longestFrom_36 : decode cX5_longestFrom 36 = .ok (.ifCond .ne 7, 3) := by decide +kernel
theorem dX5_longestFrom_39 : decode cX5_longestFrom 39 = .ok (.iconst 1, 1) := by decide +kernel
theorem dX5_longestFrom_40 : decode cX5_longestFrom 40 = .ok (.goto 4, 3) := by decide +kernel
theorem dX5_longestFrom_43 : decode cX5_longestFrom 43 = .ok (.iconst 0, 1) := by decide +kernel
theorem dX5_longestFrom_44 : decode cX5_longestFrom 44 = .ok (.putfield 24, 3) := by decide +kernel
theorem dX5_longestFrom_47 : decode cX5_longestFrom 47 = .ok (.iconst 0, 1) := by decide +kernel
theorem dX5_longestFrom_48 : decode cX5_longestFrom 48 = .ok (.istore 5, 2) := by decide +kernel
theorem dX5_longestFrom_50 : decode cX5_longestFrom 50 = .ok (.iload 5, 2) := by decide +kernel
theorem dX5_longestFrom_52 : decode cX5_longestFrom 52 = .ok (.aload_n 0, 1) := by decide +kernel
theorem dX5_longestFrom_53 : decode cX5_longestFrom 53 = .ok (.getfield 24, 3) := by decide +kernel
theorem dX5_longestFrom_56 : decode cX5_longestFrom 56 = .ok (.if_icmp .ge 80, 3) := by decide +kernel
theorem dX5_longestFrom_59 : decode cX5_longestFrom 59 = .ok (.iload 5, 2) := by decide +kernel
theorem dX5_longestFrom_61 : decode cX5_longestFrom 61 = .ok (.sipush 720, 3) := by decide +kernel
theorem dX5_longestFrom_64 : decode cX5_longestFrom 64 = .ok (.if_icmp .ge 72, 3) := by decide +kernel
theorem dX5_longestFrom_67 : decode cX5_longestFrom 67 = .ok (.aload_n 0, 1) := by decide +kernel
theorem dX5_longestFrom_68 : decode cX5_longestFrom 68 = .ok (.getfield 9, 3) := by decide +kernel
theorem dX5_longestFrom_71 : decode cX5_longestFrom 71 = .ok (.iload 5, 2) := by decide +kernel
theorem dX5_longestFrom_73 : decode cX5_longestFrom 73 = .ok (.iaload, 1) := by decide +kernel
theorem dX5_longestFrom_74 : decode cX5_longestFrom 74 = .ok (.istore 6, 2) := by decide +kernel
theorem dX5_longestFrom_76 : decode cX5_longestFrom 76 = .ok (.iload 4, 2) := by decide +kernel
theorem dX5_longestFrom_78 : decode cX5_longestFrom 78 = .ok (.aload_n 0, 1) := by decide +kernel
theorem dX5_longestFrom_79 : decode cX5_longestFrom 79 = .ok (.getfield 15, 3) := by decide +kernel
theorem dX5_longestFrom_82 : decode cX5_longestFrom 82 = .ok (.iload 6, 2) := by decide +kernel
theorem dX5_longestFrom_84 : decode cX5_longestFrom 84 = .ok (.iaload, 1) := by decide +kernel
theorem dX5_longestFrom_85 : decode cX5_longestFrom 85 = .ok (.invokestatic 69, 3) := by decide +kernel
theorem dX5_longestFrom_88 : decode cX5_longestFrom 88 = .ok (.istore 4, 2) := by decide +kernel
theorem dX5_longestFrom_90 : decode cX5_longestFrom 90 = .ok (.iconst 0, 1) := by decide +kernel
theorem dX5_longestFrom_91 : decode cX5_longestFrom 91 = .ok (.istore 7, 2) := by decide +kernel
theorem dX5_longestFrom_93 : decode cX5_longestFrom 93 = .ok (.iload 7, 2) := by decide +kernel
theorem dX5_longestFrom_95 : decode cX5_longestFrom 95 = .ok (.aload_n 1, 1) := by decide +kernel
theorem dX5_longestFrom_96 : decode cX5_longestFrom 96 = .ok (.getfield 38, 3) := by decide +kernel
theorem dX5_longestFrom_99 : decode cX5_longestFrom 99 = .ok (.if_icmp .ge 31, 3) := by decide +kernel
theorem dX5_longestFrom_102 : decode cX5_longestFrom 102 = .ok (.aload_n 0, 1) := by decide +kernel
theorem dX5_longestFrom_103 : decode cX5_longestFrom 103 = .ok (.aload_n 1, 1) := by decide +kernel
theorem dX5_longestFrom_104 : decode cX5_longestFrom 104 = .ok (.iload 6, 2) := by decide +kernel
theorem dX5_longestFrom_106 : decode cX5_longestFrom 106 = .ok (.iload 7, 2) := by decide +kernel
theorem dX5_longestFrom_108 : decode cX5_longestFrom 108 = .ok (.iconst (-1), 1) := by decide +kernel
theorem dX5_longestFrom_109 : decode cX5_longestFrom 109 = .ok (.invokevirtual 43, 3) := by decide +kernel
theorem dX5_longestFrom_112 : decode cX5_longestFrom 112 = .ok (.aload_n 0, 1) := by decide +kernel
theorem dX5_longestFrom_113 : decode cX5_longestFrom 113 = .ok (.getfield 15, 3) := by decide +kernel
theorem dX5_longestFrom_116 : decode cX5_longestFrom 116 = .ok (.iload 6, 2) := by decide +kernel
theorem dX5_longestFrom_118 : decode cX5_longestFrom 118 = .ok (.iaload, 1) := by decide +kernel
theorem dX5_longestFrom_119 : decode cX5_longestFrom 119 = .ok (.iconst 1, 1) := by decide +kernel
theorem dX5_longestFrom_120 : decode cX5_longestFrom 120 = .ok (.iadd, 1) := by decide +kernel
theorem dX5_longestFrom_121 : decode cX5_longestFrom 121 = .ok (.invokevirtual 74, 3) := by decide +kernel
theorem dX5_longestFrom_124 : decode cX5_longestFrom 124 = .ok (.iinc 7 1, 3) := by decide +kernel
theorem dX5_longestFrom_127 : decode cX5_longestFrom 127 = .ok (.goto (-34), 3) := by decide +kernel
theorem dX5_longestFrom_130 : decode cX5_longestFrom 130 = .ok (.iinc 5 1, 3) := by decide +kernel
theorem dX5_longestFrom_133 : decode cX5_longestFrom 133 = .ok (.goto (-83), 3) := by decide +kernel
theorem dX5_longestFrom_136 : decode cX5_longestFrom 136 = .ok (.aload_n 0, 1) := by decide +kernel
theorem dX5_longestFrom_137 : decode cX5_longestFrom 137 = .ok (.getfield 24, 3) := by decide +kernel
theorem dX5_longestFrom_140 : decode cX5_longestFrom 140 = .ok (.iload_n 3, 1) := by decide +kernel
theorem dX5_longestFrom_141 : decode cX5_longestFrom 141 = .ok (.if_icmp .ne 8, 3) := by decide +kernel
theorem dX5_longestFrom_144 : decode cX5_longestFrom 144 = .ok (.iload 4, 2) := by decide +kernel
theorem dX5_longestFrom_146 : decode cX5_longestFrom 146 = .ok (.goto 4, 3) := by decide +kernel
theorem dX5_longestFrom_149 : decode cX5_longestFrom 149 = .ok (.iconst (-1), 1) := by decide +kernel
theorem dX5_longestFrom_150 : decode cX5_longestFrom 150 = .ok (.ireturn, 1) := by decide +kernel
theorem dX5_countWaysIn_0 : decode cX5_countWaysIn 0 = .ok (.aload_n 0, 1) := by decide +kernel
theorem dX5_countWaysIn_1 : decode cX5_countWaysIn 1 = .ok (.getfield 21, 3) := by decide +kernel
theorem dX5_countWaysIn_4 : decode cX5_countWaysIn 4 = .ok (.iconst 0, 1) := by decide +kernel
theorem dX5_countWaysIn_5 : decode cX5_countWaysIn 5 = .ok (.invokestatic 28, 3) := by decide +kernel
theorem dX5_countWaysIn_8 : decode cX5_countWaysIn 8 = .ok (.iconst 0, 1) := by decide +kernel
theorem dX5_countWaysIn_9 : decode cX5_countWaysIn 9 = .ok (.istore_n 2, 1) := by decide +kernel
theorem dX5_countWaysIn_10 : decode cX5_countWaysIn 10 = .ok (.iload_n 2, 1) := by decide +kernel
theorem dX5_countWaysIn_11 : decode cX5_countWaysIn 11 = .ok (.aload_n 0, 1) := by decide +kernel
theorem dX5_countWaysIn_12 : decode cX5_countWaysIn 12 = .ok (.getfield 24, 3) := by decide +kernel
theorem dX5_countWaysIn_15 : decode cX5_countWaysIn 15 = .ok (.if_icmp .ge 55, 3) := by decide +kernel
theorem dX5_countWaysIn_18 : decode cX5_countWaysIn 18 = .ok (.iconst 0, 1) := by decide +kernel
theorem dX5_countWaysIn_19 : decode cX5_countWaysIn 19 = .ok (.istore_n 3, 1) := by decide +kernel
theorem dX5_countWaysIn_20 : decode cX5_countWaysIn 20 = .ok (.iload_n 3, 1) := by decide +kernel
theorem dX5_countWaysIn_21 : decode cX5_countWaysIn 21 = .ok (.aload_n 1, 1) := by decide +kernel
theorem dX5_countWaysIn_22 : decode cX5_countWaysIn 22 = .ok (.getfield 38, 3) := by decide +kernel
theorem dX5_countWaysIn_25 : decode cX5_countWaysIn 25 = .ok (.if_icmp .ge 39, 3) := by decide +kernel
theorem dX5_countWaysIn_28 : decode cX5_countWaysIn 28 = .ok (.aload_n 1, 1) := by decide +kernel
theorem dX5_countWaysIn_29 : decode cX5_countWaysIn 29 = .ok (.aload_n 0, 1) := by decide +kernel
theorem dX5_countWaysIn_30 : decode cX5_countWaysIn 30 = .ok (.getfield 9, 3) := by decide +kernel
theorem dX5_countWaysIn_33 : decode cX5_countWaysIn 33 = .ok (.iload_n 2, 1) := by decide +kernel
theorem dX5_countWaysIn_34 : decode cX5_countWaysIn 34 = .ok (.iaload, 1) := by decide +kernel
theorem dX5_countWaysIn_35 : decode cX5_countWaysIn 35 = .ok (.iload_n 3, 1) := by decide +kernel
theorem dX5_countWaysIn_36 : decode cX5_countWaysIn 36 = .ok (.iconst (-1), 1) := by decide +kernel
theorem dX5_countWaysIn_37 : decode cX5_countWaysIn 37 = .ok (.invokevirtual 43, 3) := by decide +kernel
theorem dX5_countWaysIn_40 : decode cX5_countWaysIn 40 = .ok (.istore 4, 2) := by decide +kernel
theorem dX5_countWaysIn_42 : decode cX5_countWaysIn 42 = .ok (.iload 4, 2) := by decide +kernel
theorem dX5_countWaysIn_44 : decode cX5_countWaysIn 44 = .ok (.ifCond .lt 14, 3) := by decide +kernel
theorem dX5_countWaysIn_47 : decode cX5_countWaysIn 47 = .ok (.aload_n 0, 1) := by decide +kernel
theorem dX5_countWaysIn_48 : decode cX5_countWaysIn 48 = .ok (.getfield 21, 3) := by decide +kernel
theorem dX5_countWaysIn_51 : decode cX5_countWaysIn 51 = .ok (.iload 4, 2) := by decide +kernel
theorem dX5_countWaysIn_53 : decode cX5_countWaysIn 53 = .ok (.dup2, 1) := by decide +kernel
theorem dX5_countWaysIn_54 : decode cX5_countWaysIn 54 = .ok (.iaload, 1) := by decide +kernel
theorem dX5_countWaysIn_55 : decode cX5_countWaysIn 55 = .ok (.iconst 1, 1) := by decide +kernel
theorem dX5_countWaysIn_56 : decode cX5_countWaysIn 56 = .ok (.iadd, 1) := by decide +kernel
theorem dX5_countWaysIn_57 : decode cX5_countWaysIn 57 = .ok (.iastore, 1) := by decide +kernel
theorem dX5_countWaysIn_58 : decode cX5_countWaysIn 58 = .ok (.iinc 3 1, 3) := by decide +kernel
theorem dX5_countWaysIn_61 : decode cX5_countWaysIn 61 = .ok (.goto (-41), 3) := by decide +kernel
theorem dX5_countWaysIn_64 : decode cX5_countWaysIn 64 = .ok (.iinc 2 1, 3) := by decide +kernel
theorem dX5_countWaysIn_67 : decode cX5_countWaysIn 67 = .ok (.goto (-57), 3) := by decide +kernel
theorem dX5_countWaysIn_70 : decode cX5_countWaysIn 70 = .ok (.return_, 1) := by decide +kernel
theorem dX5_goThrough_0 : decode cX5_goThrough 0 = .ok (.iload_n 1, 1) := by decide +kernel
theorem dX5_goThrough_1 : decode cX5_goThrough 1 = .ok (.ifCond .lt 10, 3) := by decide +kernel
theorem dX5_goThrough_4 : decode cX5_goThrough 4 = .ok (.iload_n 1, 1) := by decide +kernel
theorem dX5_goThrough_5 : decode cX5_goThrough 5 = .ok (.sipush 720, 3) := by decide +kernel
theorem dX5_goThrough_8 : decode cX5_goThrough 8 = .ok (.if_icmp .lt 4, 3) := by decide +kernel
theorem dX5_goThrough_11 : decode cX5_goThrough 11 = .ok (.return_, 1) := by decide +kernel
theorem dX5_goThrough_12 : decode cX5_goThrough 12 = .ok (.aload_n 0, 1) := by decide +kernel
theorem dX5_goThrough_13 : decode cX5_goThrough 13 = .ok (.getfield 15, 3) := by decide +kernel
theorem dX5_goThrough_16 : decode cX5_goThrough 16 = .ok (.iload_n 1, 1) := by decide +kernel
theorem dX5_goThrough_17 : decode cX5_goThrough 17 = .ok (.aload_n 0, 1) := by decide +kernel
theorem dX5_goThrough_18 : decode cX5_goThrough 18 = .ok (.getfield 15, 3) := by decide +kernel
theorem dX5_goThrough_21 : decode cX5_goThrough 21 = .ok (.iload_n 1, 1) := by decide +kernel
theorem dX5_goThrough_22 : decode cX5_goThrough 22 = .ok (.iaload, 1) := by decide +kernel
theorem dX5_goThrough_23 : decode cX5_goThrough 23 = .ok (.iload_n 2, 1) := by decide +kernel
theorem dX5_goThrough_24 : decode cX5_goThrough 24 = .ok (.invokestatic 69, 3) := by decide +kernel
theorem dX5_goThrough_27 : decode cX5_goThrough 27 = .ok (.iastore, 1) := by decide +kernel
theorem dX5_goThrough_28 : decode cX5_goThrough 28 = .ok (.aload_n 0, 1) := by decide +kernel
theorem dX5_goThrough_29 : decode cX5_goThrough 29 = .ok (.getfield 21, 3) := by decide +kernel
theorem dX5_goThrough_32 : decode cX5_goThrough 32 = .ok (.iload_n 1, 1) := by decide +kernel
theorem dX5_goThrough_33 : decode cX5_goThrough 33 = .ok (.dup2, 1) := by decide +kernel
theorem dX5_goThrough_34 : decode cX5_goThrough 34 = .ok (.iaload, 1) := by decide +kernel
theorem dX5_goThrough_35 : decode cX5_goThrough 35 = .ok (.iconst 1, 1) := by decide +kernel
theorem dX5_goThrough_36 : decode cX5_goThrough 36 = .ok (.isub, 1) := by decide +kernel
theorem dX5_goThrough_37 : decode cX5_goThrough 37 = .ok (.iastore, 1) := by decide +kernel
theorem dX5_goThrough_38 : decode cX5_goThrough 38 = .ok (.aload_n 0, 1) := by decide +kernel
theorem dX5_goThrough_39 : decode cX5_goThrough 39 = .ok (.getfield 21, 3) := by decide +kernel
theorem dX5_goThrough_42 : decode cX5_goThrough 42 = .ok (.iload_n 1, 1) := by decide +kernel
theorem dX5_goThrough_43 : decode cX5_goThrough 43 = .ok (.iaload, 1) := by decide +kernel
theorem dX5_goThrough_44 : decode cX5_goThrough 44 = .ok (.ifCond .ne 33, 3) := by decide +kernel
theorem dX5_goThrough_47 : decode cX5_goThrough 47 = .ok (.aload_n 0, 1) := by decide +kernel
theorem dX5_goThrough_48 : decode cX5_goThrough 48 = .ok (.getfield 24, 3) := by decide +kernel
theorem dX5_goThrough_51 : decode cX5_goThrough 51 = .ok (.sipush 720, 3) := by decide +kernel
theorem dX5_goThrough_54 : decode cX5_goThrough 54 = .ok (.if_icmp .ge 23, 3) := by decide +kernel
theorem dX5_goThrough_57 : decode cX5_goThrough 57 = .ok (.aload_n 0, 1) := by decide +kernel
theorem dX5_goThrough_58 : decode cX5_goThrough 58 = .ok (.getfield 9, 3) := by decide +kernel
theorem dX5_goThrough_61 : decode cX5_goThrough 61 = .ok (.aload_n 0, 1) := by decide +kernel
theorem dX5_goThrough_62 : decode cX5_goThrough 62 = .ok (.getfield 24, 3) := by decide +kernel
theorem dX5_goThrough_65 : decode cX5_goThrough 65 = .ok (.iload_n 1, 1) := by decide +kernel
theorem dX5_goThrough_66 : decode cX5_goThrough 66 = .ok (.iastore, 1) := by decide +kernel
theorem dX5_goThrough_67 : decode cX5_goThrough 67 = .ok (.aload_n 0, 1) := by decide +kernel
theorem dX5_goThrough_68 : decode cX5_goThrough 68 = .ok (.dup, 1) := by decide +kernel
theorem dX5_goThrough_69 : decode cX5_goThrough 69 = .ok (.getfield 24, 3) := by decide +kernel
theorem dX5_goThrough_72 : decode cX5_goThrough 72 = .ok (.iconst 1, 1) := by decide +kernel
theorem dX5_goThrough_73 : decode cX5_goThrough 73 = .ok (.iadd, 1) := by decide +kernel
theorem dX5_goThrough_74 : decode cX5_goThrough 74 = .ok (.putfield 24, 3) := by decide +kernel
theorem dX5_goThrough_77 : decode cX5_goThrough 77 = .ok (.return_, 1) := by decide +kernel
theorem dX6_init_0 : decode cX6_init 0 = .ok (.aload_n 0, 1) := by decide +kernel
theorem dX6_init_1 : decode cX6_init 1 = .ok (.invokespecial 3, 3) := by decide +kernel
theorem dX6_init_4 : decode cX6_init 4 = .ok (.aload_n 0, 1) := by decide +kernel
theorem dX6_init_5 : decode cX6_init 5 = .ok (.bipush 8, 2) := by decide +kernel
theorem dX6_init_7 : decode cX6_init 7 = .ok (.newarray .int, 2) := by decide +kernel
theorem dX6_init_9 : decode cX6_init 9 = .ok (.putfield 9, 3) := by decide +kernel
theorem dX6_init_12 : decode cX6_init 12 = .ok (.aload_n 0, 1) := by decide +kernel
theorem dX6_init_13 : decode cX6_init 13 = .ok (.bipush 8, 2) := by decide +kernel
theorem dX6_init_15 : decode cX6_init 15 = .ok (.newarray .int, 2) := by decide +kernel
theorem dX6_init_17 : decode cX6_init 17 = .ok (.putfield 15, 3) := by decide +kernel
theorem dX6_init_20 : decode cX6_init 20 = .ok (.aload_n 0, 1) := by decide +kernel
theorem dX6_init_21 : decode cX6_init 21 = .ok (.bipush 8, 2) := by decide +kernel
theorem dX6_init_23 : decode cX6_init 23 = .ok (.newarray .int, 2) := by decide +kernel
theorem dX6_init_25 : decode cX6_init 25 = .ok (.putfield 18, 3) := by decide +kernel
theorem dX6_init_28 : decode cX6_init 28 = .ok (.aload_n 0, 1) := by decide +kernel
theorem dX6_init_29 : decode cX6_init 29 = .ok (.bipush 8, 2) := by decide +kernel
theorem dX6_init_31 : decode cX6_init 31 = .ok (.newarray .boolean, 2) := by decide +kernel
theorem dX6_init_33 : decode cX6_init 33 = .ok (.putfield 21, 3) := by decide +kernel
theorem dX6_init_36 : decode cX6_init 36 = .ok (.aload_n 0, 1) := by decide +kernel
theorem dX6_init_37 : decode cX6_init 37 = .ok (.iconst 0, 1) := by decide +kernel
theorem dX6_init_38 : decode cX6_init 38 = .ok (.putfield 25, 3) := by decide +kernel
theorem dX6_init_41 : decode cX6_init 41 = .ok (.return_, 1) := by decide +kernel
theorem dX6_add_0 : decode cX6_add 0 = .ok (.aload_n 0, 1) := by decide +kernel
theorem dX6_add_1 : decode cX6_add 1 = .ok (.getfield 25, 3) := by decide +kernel
theorem dX6_add_4 : decode cX6_add 4 = .ok (.bipush 8, 2) := by decide +kernel
theorem dX6_add_6 : decode cX6_add 6 = .ok (.if_icmp .lt 5, 3) := by decide +kernel
theorem dX6_add_9 : decode cX6_add 9 = .ok (.iconst 0, 1) := by decide +kernel
theorem dX6_add_10 : decode cX6_add 10 = .ok (.ireturn, 1) := by decide +kernel
theorem dX6_add_11 : decode cX6_add 11 = .ok (.aload_n 0, 1) := by decide +kernel
theorem dX6_add_12 : decode cX6_add 12 = .ok (.getfield 9, 3) := by decide +kernel
theorem dX6_add_15 : decode cX6_add 15 = .ok (.aload_n 0, 1) := by decide +kernel
theorem dX6_add_16 : decode cX6_add 16 = .ok (.getfield 25, 3) := by decide +kernel
theorem dX6_add_19 : decode cX6_add 19 = .ok (.iload_n 1, 1) := by decide +kernel
theorem dX6_add_20 : decode cX6_add 20 = .ok (.iastore, 1) := by decide +kernel
theorem dX6_add_21 : decode cX6_add 21 = .ok (.aload_n 0, 1) := by decide +kernel
theorem dX6_add_22 : decode cX6_add 22 = .ok (.getfield 15, 3) := by decide +kernel
theorem dX6_add_25 : decode cX6_add 25 = .ok (.aload_n 0, 1) := by decide +kernel
theorem dX6_add_26 : decode cX6_add 26 = .ok (.getfield 25, 3) := by decide +kernel
theorem dX6_add_29 : decode cX6_add 29 = .ok (.iload_n 2, 1) := by decide +kernel
theorem dX6_add_30 : decode cX6_add 30 = .ok (.iastore, 1) := by decide +kernel
theorem dX6_add_31 : decode cX6_add 31 = .ok (.aload_n 0, 1) := by decide +kernel
theorem dX6_add_32 : decode cX6_add 32 = .ok (.getfield 18, 3) := by decide +kernel
theorem dX6_add_35 : decode cX6_add 35 = .ok (.aload_n 0, 1) := by decide +kernel
theorem dX6_add_36 : decode cX6_add 36 = .ok (.getfield 25, 3) := by decide +kernel
theorem dX6_add_39 : decode cX6_add 39 = .ok (.iload_n 3, 1) := by decide +kernel
theorem dX6_add_40 : decode cX6_add 40 = .ok (.iastore, 1) := by decide +kernel
theorem dX6_add_41 : decode cX6_add 41 = .ok (.aload_n 0, 1) := by decide +kernel
theorem dX6_add_42 : decode cX6_add 42 = .ok (.getfield 21, 3) := by decide +kernel
theorem dX6_add_45 : decode cX6_add 45 = .ok (.aload_n 0, 1) := by decide +kernel
theorem dX6_add_46 : decode cX6_add 46 = .ok (.getfield 25, 3) := by decide +kernel
theorem dX6_add_49 : decode cX6_add 49 = .ok (.iload 4, 2) := by decide +kernel
theorem dX6_add_51 : decode cX6_add 51 = .ok (.bastore, 1) := by decide +kernel
theorem dX6_add_52 : decode cX6_add 52 = .ok (.aload_n 0, 1) := by decide +kernel
theorem dX6_add_53 : decode cX6_add 53 = .ok (.dup, 1) := by decide +kernel
theorem dX6_add_54 : decode cX6_add 54 = .ok (.getfield 25, 3) := by decide +kernel
theorem dX6_add_57 : decode cX6_add 57 = .ok (.iconst 1, 1) := by decide +kernel
theorem dX6_add_58 : decode cX6_add 58 = .ok (.iadd, 1) := by decide +kernel
theorem dX6_add_59 : decode cX6_add 59 = .ok (.putfield 25, 3) := by decide +kernel
theorem dX6_add_62 : decode cX6_add 62 = .ok (.iconst 1, 1) := by decide +kernel
theorem dX6_add_63 : decode cX6_add 63 = .ok (.ireturn, 1) := by decide +kernel
theorem dX6_allow_0 : decode cX6_allow 0 = .ok (.iconst 0, 1) := by decide +kernel
theorem dX6_allow_1 : decode cX6_allow 1 = .ok (.istore 4, 2) := by decide +kernel
theorem dX6_allow_3 : decode cX6_allow 3 = .ok (.iload 4, 2) := by decide +kernel
theorem dX6_allow_5 : decode cX6_allow 5 = .ok (.aload_n 0, 1) := by decide +kernel
theorem dX6_allow_6 : decode cX6_allow 6 = .ok (.getfield 25, 3) := by decide +kernel
theorem dX6_allow_9 : decode cX6_allow 9 = .ok (.if_icmp .ge 93, 3) := by decide +kernel
theorem dX6_allow_12 : decode cX6_allow 12 = .ok (.aload_n 1, 1) := by decide +kernel
theorem dX6_allow_13 : decode cX6_allow 13 = .ok (.aload_n 0, 1) := by decide +kernel
theorem dX6_allow_14 : decode cX6_allow 14 = .ok (.getfield 15, 3) := by decide +kernel
theorem dX6_allow_17 : decode cX6_allow 17 = .ok (.iload 4, 2) := by decide +kernel
theorem dX6_allow_19 : decode cX6_allow 19 = .ok (.iaload, 1) := by decide +kernel
theorem dX6_allow_20 : decode cX6_allow 20 = .ok (.iload_n 3, 1) := by decide +kernel
theorem dX6_allow_21 : decode cX6_allow 21 = .ok (.invokevirtual 29, 3) := by decide +kernel
theorem dX6_allow_24 : decode cX6_allow 24 = .ok (.aload_n 1, 1) := by decide +kernel
theorem dX6_allow_25 : decode cX6_allow 25 = .ok (.aload_n 0, 1) := by decide +kernel
theorem dX6_allow_26 : decode cX6_allow 26 = .ok (.getfield 18, 3) := by decide +kernel
theorem dX6_allow_29 : decode cX6_allow 29 = .ok (.iload 4, 2) := by decide +kernel
theorem dX6_allow_31 : decode cX6_allow 31 = .ok (.iaload, 1) := by decide +kernel
theorem dX6_allow_32 : decode cX6_allow 32 = .ok (.iload_n 3, 1) := by decide +kernel
theorem dX6_allow_33 : decode cX6_allow 33 = .ok (.invokevirtual 29, 3) := by decide +kernel
theorem dX6_allow_36 : decode cX6_allow 36 = .ok (.isub, 1) := by decide +kernel
theorem dX6_allow_37 : decode cX6_allow 37 = .ok (.istore 5, 2) := by decide +kernel
theorem dX6_allow_39 : decode cX6_allow 39 = .ok (.aload_n 1, 1) := by decide +kernel
theorem dX6_allow_40 : decode cX6_allow 40 = .ok (.getfield 35, 3) := by decide +kernel
theorem dX6_allow_43 : decode cX6_allow 43 = .ok (.iload_n 2, 1) := by decide +kernel
theorem dX6_allow_44 : decode cX6_allow 44 = .ok (.iaload, 1) := by decide +kernel
theorem dX6_allow_45 : decode cX6_allow 45 = .ok (.iload 5, 2) := by decide +kernel
theorem dX6_allow_47 : decode cX6_allow 47 = .ok (.imul, 1) := by decide +kernel
theorem dX6_allow_48 : decode cX6_allow 48 = .ok (.istore 6, 2) := by decide +kernel
theorem dX6_allow_50 : decode cX6_allow 50 = .ok (.aload_n 1, 1) := by decide +kernel
theorem dX6_allow_51 : decode cX6_allow 51 = .ok (.getfield 38, 3) := by decide +kernel
theorem dX6_allow_54 : decode cX6_allow 54 = .ok (.iload_n 2, 1) := by decide +kernel
theorem dX6_allow_55 : decode cX6_allow 55 = .ok (.iaload, 1) := by decide +kernel
theorem dX6_allow_56 : decode cX6_allow 56 = .ok (.iload 6, 2) := by decide +kernel
theorem dX6_allow_58 : decode cX6_allow 58 = .ok (.invokestatic 41, 3) := by decide +kernel
theorem dX6_allow_61 : decode cX6_allow 61 = .ok (.ifCond .ne 7, 3) := by decide +kernel
theorem dX6_allow_64 : decode cX6_allow 64 = .ok (.iconst 1, 1) := by decide +kernel
theorem dX6_allow_65 : decode cX6_allow 65 = .ok (.goto 4, 3) := by decide +kernel
theorem dX6_allow_68 : decode cX6_allow 68 = .ok (.iconst 0, 1) := by decide +kernel
theorem dX6_allow_69 : decode cX6_allow 69 = .ok (.istore 7, 2) := by decide +kernel
theorem dX6_allow_71 : decode cX6_allow 71 = .ok (.aload_n 0, 1) := by decide +kernel
theorem dX6_allow_72 : decode cX6_allow 72 = .ok (.getfield 9, 3) := by decide +kernel
theorem dX6_allow_75 : decode cX6_allow 75 = .ok (.iload 4, 2) := by decide +kernel
theorem dX6_allow_77 : decode cX6_allow 77 = .ok (.iaload, 1) := by decide +kernel
theorem dX6_allow_78 : decode cX6_allow 78 = .ok (.iload_n 2, 1) := by decide +kernel
theorem dX6_allow_79 : decode cX6_allow 79 = .ok (.if_icmp .ne 17, 3) := by decide +kernel
theorem dX6_allow_82 : decode cX6_allow 82 = .ok (.iload 7, 2) := by decide +kernel
theorem dX6_allow_84 : decode cX6_allow 84 = .ok (.aload_n 0, 1) := by decide +kernel
theorem dX6_allow_85 : decode cX6_allow 85 = .ok (.getfield 21, 3) := by decide +kernel
theorem dX6_allow_88 : decode cX6_allow 88 = .ok (.iload 4, 2) := by decide +kernel
theorem dX6_allow_90 : decode cX6_allow 90 = .ok (.baload, 1) := by decide +kernel
theorem dX6_allow_91 : decode cX6_allow 91 = .ok (.if_icmp .eq 5, 3) := by decide +kernel
theorem dX6_allow_94 : decode cX6_allow 94 = .ok (.iconst 0, 1) := by decide +kernel
theorem dX6_allow_95 : decode cX6_allow 95 = .ok (.ireturn, 1) := by decide +kernel
theorem dX6_allow_96 : decode cX6_allow 96 = .ok (.iinc 4 1, 3) := by decide +kernel
theorem dX6_allow_99 : decode cX6_allow 99 = .ok (.goto (-96), 3) := by decide +kernel
theorem dX6_allow_102 : decode cX6_allow 102 = .ok (.iconst 1, 1) := by decide +kernel
theorem dX6_allow_103 : decode cX6_allow 103 = .ok (.ireturn, 1) := by decide +kernel
theorem dX7_init_0 : decode cX7_init 0 = .ok (.aload_n 0, 1) := by decide +kernel
theorem dX7_init_1 : decode cX7_init 1 = .ok (.invokespecial 3, 3) := by decide +kernel
theorem dX7_init_4 : decode cX7_init 4 = .ok (.aload_n 0, 1) := by decide +kernel
theorem dX7_init_5 : decode cX7_init 5 = .ok (.sipush 300, 3) := by decide +kernel
theorem dX7_init_8 : decode cX7_init 8 = .ok (.newarray .int, 2) := by decide +kernel
theorem dX7_init_10 : decode cX7_init 10 = .ok (.putfield 9, 3) := by decide +kernel
theorem dX7_init_13 : decode cX7_init 13 = .ok (.aload_n 0, 1) := by decide +kernel
theorem dX7_init_14 : decode cX7_init 14 = .ok (.iconst 0, 1) := by decide +kernel
theorem dX7_init_15 : decode cX7_init 15 = .ok (.putfield 15, 3) := by decide +kernel
theorem dX7_init_18 : decode cX7_init 18 = .ok (.aload_n 0, 1) := by decide +kernel
theorem dX7_init_19 : decode cX7_init 19 = .ok (.iconst 3, 1) := by decide +kernel
theorem dX7_init_20 : decode cX7_init 20 = .ok (.newarray .int, 2) := by decide +kernel
theorem dX7_init_22 : decode cX7_init 22 = .ok (.putfield 19, 3) := by decide +kernel
theorem dX7_init_25 : decode cX7_init 25 = .ok (.return_, 1) := by decide +kernel
theorem dX7_append_0 : decode cX7_append 0 = .ok (.aload_n 0, 1) := by decide +kernel
theorem dX7_append_1 : decode cX7_append 1 = .ok (.getfield 15, 3) := by decide +kernel
theorem dX7_append_4 : decode cX7_append 4 = .ok (.iload_n 1, 1) := by decide +kernel
theorem dX7_append_5 : decode cX7_append 5 = .ok (.iadd, 1) := by decide +kernel
theorem dX7_append_6 : decode cX7_append 6 = .ok (.sipush 300, 3) := by decide +kernel
theorem dX7_append_9 : decode cX7_append 9 = .ok (.if_icmp .le 5, 3) := by decide +kernel
theorem dX7_append_12 : decode cX7_append 12 = .ok (.iconst 0, 1) := by decide +kernel
theorem dX7_append_13 : decode cX7_append 13 = .ok (.ireturn, 1) := by decide +kernel
theorem dX7_append_14 : decode cX7_append 14 = .ok (.iload_n 1, 1) := by decide +kernel
theorem dX7_append_15 : decode cX7_append 15 = .ok (.iconst 1, 1) := by decide +kernel
theorem dX7_append_16 : decode cX7_append 16 = .ok (.isub, 1) := by decide +kernel
theorem dX7_append_17 : decode cX7_append 17 = .ok (.istore 4, 2) := by decide +kernel
theorem dX7_append_19 : decode cX7_append 19 = .ok (.iload 4, 2) := by decide +kernel
theorem dX7_append_21 : decode cX7_append 21 = .ok (.ifCond .lt 40, 3) := by decide +kernel
theorem dX7_append_24 : decode cX7_append 24 = .ok (.aload_n 0, 1) := by decide +kernel
theorem dX7_append_25 : decode cX7_append 25 = .ok (.getfield 9, 3) := by decide +kernel
theorem dX7_append_28 : decode cX7_append 28 = .ok (.aload_n 0, 1) := by decide +kernel
theorem dX7_append_29 : decode cX7_append 29 = .ok (.getfield 15, 3) := by decide +kernel
theorem dX7_append_32 : decode cX7_append 32 = .ok (.lload_n 2, 1) := by decide +kernel
theorem dX7_append_33 : decode cX7_append 33 = .ok (.bipush 8, 2) := by decide +kernel
theorem dX7_append_35 : decode cX7_append 35 = .ok (.iload 4, 2) := by decide +kernel
theorem dX7_append_37 : decode cX7_append 37 = .ok (.imul, 1) := by decide +kernel
theorem dX7_append_38 : decode cX7_append 38 = .ok (.lshr, 1) := by decide +kernel
theorem dX7_append_39 : decode cX7_append 39 = .ok (.l2i, 1) := by decide +kernel
theorem dX7_append_40 : decode cX7_append 40 = .ok (.sipush 255, 3) := by decide +kernel
theorem dX7_append_43 : decode cX7_append 43 = .ok (.iand, 1) := by decide +kernel
theorem dX7_append_44 : decode cX7_append 44 = .ok (.iastore, 1) := by decide +kernel
theorem dX7_append_45 : decode cX7_append 45 = .ok (.aload_n 0, 1) := by decide +kernel
theorem dX7_append_46 : decode cX7_append 46 = .ok (.dup, 1) := by decide +kernel
theorem dX7_append_47 : decode cX7_append 47 = .ok (.getfield 15, 3) := by decide +kernel
theorem dX7_append_50 : decode cX7_append 50 = .ok (.iconst 1, 1) := by decide +kernel
theorem dX7_append_51 : decode cX7_append 51 = .ok (.iadd, 1) := by decide +kernel
theorem dX7_append_52 : decode cX7_append 52 = .ok (.putfield 15, 3) := by decide +kernel
theorem dX7_append_55 : decode cX7_append 55 = .ok (.iinc 4 (-1), 3) := by decide +kernel
theorem dX7_append_58 : decode cX7_append 58 = .ok (.goto (-39), 3) := by decide +kernel
theorem dX7_append_61 : decode cX7_append 61 = .ok (.iconst 1, 1) := by decide +kernel
theorem dX7_append_62 : decode cX7_append 62 = .ok (.ireturn, 1) := by decide +kernel
theorem dX7_read_0 : decode cX7_read 0 = .ok (.aload_n 1, 1) := by decide +kernel
theorem dX7_read_1 : decode cX7_read 1 = .ok (.invokevirtual 22, 3) := by decide +kernel
theorem dX7_read_4 : decode cX7_read 4 = .ok (.iconst 0, 1) := by decide +kernel
theorem dX7_read_5 : decode cX7_read 5 = .ok (.istore_n 2, 1) := by decide +kernel
theorem dX7_read_6 : decode cX7_read 6 = .ok (.iload_n 2, 1) := by decide +kernel
theorem dX7_read_7 : decode cX7_read 7 = .ok (.aload_n 0, 1) := by decide +kernel
theorem dX7_read_8 : decode cX7_read 8 = .ok (.getfield 15, 3) := by decide +kernel
theorem dX7_read_11 : decode cX7_read 11 = .ok (.if_icmp .ge 22, 3) := by decide +kernel
theorem dX7_read_14 : decode cX7_read 14 = .ok (.aload_n 0, 1) := by decide +kernel
theorem dX7_read_15 : decode cX7_read 15 = .ok (.iload_n 2, 1) := by decide +kernel
theorem dX7_read_16 : decode cX7_read 16 = .ok (.aload_n 1, 1) := by decide +kernel
theorem dX7_read_17 : decode cX7_read 17 = .ok (.invokevirtual 27, 3) := by decide +kernel
theorem dX7_read_20 : decode cX7_read 20 = .ok (.istore_n 3, 1) := by decide +kernel
theorem dX7_read_21 : decode cX7_read 21 = .ok (.iload_n 3, 1) := by decide +kernel
theorem dX7_read_22 : decode cX7_read 22 = .ok (.iload_n 2, 1) := by decide +kernel
theorem dX7_read_23 : decode cX7_read 23 = .ok (.if_icmp .gt 5, 3) := by decide +kernel
theorem dX7_read_26 : decode cX7_read 26 = .ok (.iload_n 2, 1) := by decide +kernel
theorem dX7_read_27 : decode cX7_read 27 = .ok (.ireturn, 1) := by decide +kernel
theorem dX7_read_28 : decode cX7_read 28 = .ok (.iload_n 3, 1) := by decide +kernel
theorem dX7_read_29 : decode cX7_read 29 = .ok (.istore_n 2, 1) := by decide +kernel
theorem dX7_read_30 : decode cX7_read 30 = .ok (.goto (-24), 3) := by decide +kernel
theorem dX7_read_33 : decode cX7_read 33 = .ok (.iconst (-1), 1) := by decide +kernel
theorem dX7_read_34 : decode cX7_read 34 = .ok (.ireturn, 1) := by decide +kernel
theorem dX7_readItem_0 : decode cX7_readItem 0 = .ok (.aload_n 0, 1) := by decide +kernel
theorem dX7_readItem_1 : decode cX7_readItem 1 = .ok (.getfield 9, 3) := by decide +kernel
theorem dX7_readItem_4 : decode cX7_readItem 4 = .ok (.iload_n 1, 1) := by decide +kernel
theorem dX7_readItem_5 : decode cX7_readItem 5 = .ok (.iaload, 1) := by decide +kernel
theorem dX7_readItem_6 : decode cX7_readItem 6 = .ok (.istore_n 3, 1) := by decide +kernel
theorem dX7_readItem_7 : decode cX7_readItem 7 = .ok (.iload_n 3, 1) := by decide +kernel
theorem dX7_readItem_8 : decode cX7_readItem 8 = .ok (.invokestatic 31, 3) := by decide +kernel
theorem dX7_readItem_11 : decode cX7_readItem 11 = .ok (.istore 4, 2) := by decide +kernel
theorem dX7_readItem_13 : decode cX7_readItem 13 = .ok (.iload 4, 2) := by decide +kernel
theorem dX7_readItem_15 : decode cX7_readItem 15 = .ok (.ifCond .ne 5, 3) := by decide +kernel
theorem dX7_readItem_18 : decode cX7_readItem 18 = .ok (.iconst (-1), 1) := by decide +kernel
theorem dX7_readItem_19 : decode cX7_readItem 19 = .ok (.ireturn, 1) := by decide +kernel
theorem dX7_readItem_20 : decode cX7_readItem 20 = .ok (.aload_n 0, 1) := by decide +kernel
theorem dX7_readItem_21 : decode cX7_readItem 21 = .ok (.iload_n 1, 1) := by decide +kernel
theorem dX7_readItem_22 : decode cX7_readItem 22 = .ok (.iconst 1, 1) := by decide +kernel
theorem dX7_readItem_23 : decode cX7_readItem 23 = .ok (.iadd, 1) := by decide +kernel
theorem dX7_readItem_24 : decode cX7_readItem 24 = .ok (.iload 4, 2) := by decide +kernel
theorem dX7_readItem_26 : decode cX7_readItem 26 = .ok (.invokevirtual 35, 3) := by decide +kernel
theorem dX7_readItem_29 : decode cX7_readItem 29 = .ok (.istore 5, 2) := by decide +kernel
theorem dX7_readItem_31 : decode cX7_readItem 31 = .ok (.iload 5, 2) := by decide +kernel
theorem dX7_readItem_33 : decode cX7_readItem 33 = .ok (.ifCond .lt 17, 3) := by decide +kernel
theorem dX7_readItem_36 : decode cX7_readItem 36 = .ok (.aload_n 0, 1) := by decide +kernel
theorem dX7_readItem_37 : decode cX7_readItem 37 = .ok (.iload_n 3, 1) := by decide +kernel
theorem dX7_readItem_38 : decode cX7_readItem 38 = .ok (.aload_n 2, 1) := by decide +kernel
theorem dX7_readItem_39 : decode cX7_readItem 39 = .ok (.invokevirtual 39, 3) := by decide +kernel
theorem dX7_readItem_42 : decode cX7_readItem 42 = .ok (.ifCond .eq 8, 3) := by decide +kernel
theorem dX7_readItem_45 : decode cX7_readItem 45 = .ok (.iload 5, 2) := by decide +kernel
theorem dX7_readItem_47 : decode cX7_readItem 47 = .ok (.goto 4, 3) := by decide +kernel
theorem dX7_readItem_50 : decode cX7_readItem 50 = .ok (.iconst (-1), 1) := by decide +kernel
theorem dX7_readItem_51 : decode cX7_readItem 51 = .ok (.ireturn, 1) := by decide +kernel
theorem dX7_numbersOf_0 : decode cX7_numbersOf 0 = .ok (.iload_n 0, 1) := by decide +kernel
theorem dX7_numbersOf_1 : decode cX7_numbersOf 1 = .ok (.bipush 112, 2) := by decide +kernel
theorem dX7_numbersOf_3 : decode cX7_numbersOf 3 = .ok (.if_icmp .eq 9, 3) := by decide +kernel
theorem dX7_numbersOf_6 : decode cX7_numbersOf 6 = .ok (.iload_n 0, 1) := by decide +kernel
theorem dX7_numbersOf_7 : decode cX7_numbersOf 7 = .ok (.bipush 108, 2) := by decide +kernel
theorem dX7_numbersOf_9 : decode cX7_numbersOf 9 = .ok (.if_icmp .ne 5, 3) := by decide +kernel
theorem dX7_numbersOf_12 : decode cX7_numbersOf 12 = .ok (.iconst 3, 1) := by decide +kernel
theorem dX7_numbersOf_13 : decode cX7_numbersOf 13 = .ok (.ireturn, 1) := by decide +kernel
theorem dX7_numbersOf_14 : decode cX7_numbersOf 14 = .ok (.iload_n 0, 1) := by decide +kernel
theorem dX7_numbersOf_15 : decode cX7_numbersOf 15 = .ok (.bipush 114, 2) := by decide +kernel
theorem dX7_numbersOf_17 : decode cX7_numbersOf 17 = .ok (.if_icmp .ne 7, 3) := by decide +kernel
theorem dX7_numbersOf_20 : decode cX7_numbersOf 20 = .ok (.iconst 1, 1) := by decide +kernel
theorem dX7_numbersOf_21 : decode cX7_numbersOf 21 = .ok (.goto 4, 3) := by decide +kernel
theorem dX7_numbersOf_24 : decode cX7_numbersOf 24 = .ok (.iconst 0, 1) := by decide +kernel
theorem dX7_numbersOf_25 : decode cX7_numbersOf 25 = .ok (.ireturn, 1) := by decide +kernel
theorem dX7_readNumbers_0 : decode cX7_readNumbers 0 = .ok (.iload_n 1, 1) := by decide +kernel
theorem dX7_readNumbers_1 : decode cX7_readNumbers 1 = .ok (.istore_n 3, 1) := by decide +kernel
theorem dX7_readNumbers_2 : decode cX7_readNumbers 2 = .ok (.iconst 0, 1) := by decide +kernel
theorem dX7_readNumbers_3 : decode cX7_readNumbers 3 = .ok (.istore 4, 2) := by decide +kernel
theorem dX7_readNumbers_5 : decode cX7_readNumbers 5 = .ok (.iload 4, 2) := by decide +kernel
theorem dX7_readNumbers_7 : decode cX7_readNumbers 7 = .ok (.iload_n 2, 1) := by decide +kernel
theorem dX7_readNumbers_8 : decode cX7_readNumbers 8 = .ok (.if_icmp .ge 110, 3) := by decide +kernel
theorem dX7_readNumbers_11 : decode cX7_readNumbers 11 = .ok (.iconst 0, 1) := by decide +kernel
theorem dX7_readNumbers_12 : decode cX7_readNumbers 12 = .ok (.istore 5, 2) := by decide +kernel
theorem dX7_readNumbers_14 : decode cX7_readNumbers 14 = .ok (.iconst 0, 1) := by decide +kernel
theorem dX7_readNumbers_15 : decode cX7_readNumbers 15 = .ok (.istore 6, 2) := by decide +kernel
theorem dX7_readNumbers_17 : decode cX7_readNumbers 17 = .ok (.iload 6, 2) := by decide +kernel
theorem dX7_readNumbers_19 : decode cX7_readNumbers 19 = .ok (.iconst 2, 1) := by decide +kernel
theorem dX7_readNumbers_20 : decode cX7_readNumbers 20 = .ok (.if_icmp .ge 37, 3) := by decide +kernel
theorem dX7_readNumbers_23 : decode cX7_readNumbers 23 = .ok (.aload_n 0, 1) := by decide +kernel
theorem dX7_readNumbers_24 : decode cX7_readNumbers 24 = .ok (.iload_n 3, 1) := by decide +kernel
theorem dX7_readNumbers_25 : decode cX7_readNumbers 25 = .ok (.invokevirtual 43, 3) := by decide +kernel
theorem dX7_readNumbers_28 : decode cX7_readNumbers 28 = .ok (.ifCond .eq 29, 3) := by decide +kernel
theorem dX7_readNumbers_31 : decode cX7_readNumbers 31 = .ok (.bipush 10, 2) := by decide +kernel
theorem dX7_readNumbers_33 : decode cX7_readNumbers 33 = .ok (.iload 5, 2) := by decide +kernel
theorem dX7_readNumbers_35 : decode cX7_readNumbers 35 = .ok (.imul, 1) := by decide +kernel
theorem dX7_readNumbers_36 : decode cX7_readNumbers 36 = .ok (.aload_n 0, 1) := by decide +kernel
theorem dX7_readNumbers_37 : decode cX7_readNumbers 37 = .ok (.getfield 9, 3) := by decide +kernel
theorem dX7_readNumbers_40 : decode cX7_readNumbers 40 = .ok (.iload_n 3, 1) := by decide +kernel
theorem dX7_readNumbers_41 : decode cX7_readNumbers 41 = .ok (.iaload, 1) := by decide +kernel
theorem dX7_readNumbers_42 : decode cX7_readNumbers 42 = .ok (.iadd, 1) := by decide +kernel
theorem dX7_readNumbers_43 : decode cX7_readNumbers 43 = .ok (.bipush 48, 2) := by decide +kernel
theorem dX7_readNumbers_45 : decode cX7_readNumbers 45 = .ok (.isub, 1) := by decide +kernel
theorem dX7_readNumbers_46 : decode cX7_readNumbers 46 = .ok (.istore 5, 2) := by decide +kernel
theorem dX7_readNumbers_48 : decode cX7_readNumbers 48 = .ok (.iinc 6 1, 3) := by decide +kernel
theorem dX7_readNumbers_51 : decode cX7_readNumbers 51 = .ok (.iinc 3 1, 3) := by decide +kernel
theorem dX7_readNumbers_54 : decode cX7_readNumbers 54 = .ok (.goto (-37), 3) := by decide +kernel
theorem dX7_readNumbers_57 : decode cX7_readNumbers 57 = .ok (.iload 4, 2) := by decide +kernel
theorem dX7_readNumbers_59 : decode cX7_readNumbers 59 = .ok (.iload_n 2, 1) := by decide +kernel
theorem dX7_readNumbers_60 : decode cX7_readNumbers 60 = .ok (.iconst 1, 1) := by decide +kernel
theorem dX7_readNumbers_61 : decode cX7_readNumbers 61 = .ok (.isub, 1) := by decide +kernel
theorem dX7_readNumbers_62 : decode cX7_readNumbers 62 = .ok (.if_icmp .ne 8, 3) := by decide +kernel
theorem dX7_readNumbers_65 : decode cX7_readNumbers 65 = .ok (.bipush 59, 2) := by decide +kernel
theorem dX7_readNumbers_67 : decode cX7_readNumbers 67 = .ok (.goto 5, 3) := by decide +kernel
theorem dX7_readNumbers_70 : decode cX7_readNumbers 70 = .ok (.bipush 44, 2) := by decide +kernel
theorem dX7_readNumbers_72 : decode cX7_readNumbers 72 = .ok (.istore 7, 2) := by decide +kernel
theorem dX7_readNumbers_74 : decode cX7_readNumbers 74 = .ok (.iload 6, 2) := by decide +kernel
theorem dX7_readNumbers_76 : decode cX7_readNumbers 76 = .ok (.ifCond .eq 22, 3) := by decide +kernel
theorem dX7_readNumbers_79 : decode cX7_readNumbers 79 = .ok (.iload_n 3, 1) := by decide +kernel
theorem dX7_readNumbers_80 : decode cX7_readNumbers 80 = .ok (.aload_n 0, 1) := by decide +kernel
theorem dX7_readNumbers_81 : decode cX7_readNumbers 81 = .ok (.getfield 15, 3) := by decide +kernel
theorem dX7_readNumbers_84 : decode cX7_readNumbers 84 = .ok (.if_icmp .ge 14, 3) := by decide +kernel
theorem dX7_readNumbers_87 : decode cX7_readNumbers 87 = .ok (.aload_n 0, 1) := by decide +kernel
theorem dX7_readNumbers_88 : decode cX7_readNumbers 88 = .ok (.getfield 9, 3) := by decide +kernel
theorem dX7_readNumbers_91 : decode cX7_readNumbers 91 = .ok (.iload_n 3, 1) := by decide +kernel
theorem dX7_readNumbers_92 : decode cX7_readNumbers 92 = .ok (.iaload, 1) := by decide +kernel
theorem dX7_readNumbers_93 : decode cX7_readNumbers 93 = .ok (.iload 7, 2) := by decide +kernel
theorem dX7_readNumbers_95 : decode cX7_readNumbers 95 = .ok (.if_icmp .eq 5, 3) := by decide +kernel
theorem dX7_readNumbers_98 : decode cX7_readNumbers 98 = .ok (.iconst (-1), 1) := by decide +kernel
theorem dX7_readNumbers_99 : decode cX7_readNumbers 99 = .ok (.ireturn, 1) := by decide +kernel
theorem dX7_readNumbers_100 : decode cX7_readNumbers 100 = .ok (.aload_n 0, 1) := by decide +kernel
theorem dX7_readNumbers_101 : decode cX7_readNumbers 101 = .ok (.getfield 19, 3) := by decide +kernel
theorem dX7_readNumbers_104 : decode cX7_readNumbers 104 = .ok (.iload 4, 2) := by decide +kernel
theorem dX7_readNumbers_106 : decode cX7_readNumbers 106 = .ok (.iload 5, 2) := by decide +kernel
theorem dX7_readNumbers_108 : decode cX7_readNumbers 108 = .ok (.iastore, 1) := by decide +kernel
theorem dX7_readNumbers_109 : decode cX7_readNumbers 109 = .ok (.iinc 3 1, 3) := by decide +kernel
theorem dX7_readNumbers_112 : decode cX7_readNumbers 112 = .ok (.iinc 4 1, 3) := by decide +kernel
theorem dX7_readNumbers_115 : decode cX7_readNumbers 115 = .ok (.goto (-110), 3) := by decide +kernel
theorem dX7_readNumbers_118 : decode cX7_readNumbers 118 = .ok (.iload_n 3, 1) := by decide +kernel
theorem dX7_readNumbers_119 : decode cX7_readNumbers 119 = .ok (.ireturn, 1) := by decide +kernel
theorem dX7_isFigure_0 : decode cX7_isFigure 0 = .ok (.iload_n 1, 1) := by decide +kernel
theorem dX7_isFigure_1 : decode cX7_isFigure 1 = .ok (.aload_n 0, 1) := by decide +kernel
theorem dX7_isFigure_2 : decode cX7_isFigure 2 = .ok (.getfield 15, 3) := by decide +kernel
theorem dX7_isFigure_5 : decode cX7_isFigure 5 = .ok (.if_icmp .ge 29, 3) := by decide +kernel
theorem dX7_isFigure_8 : decode cX7_isFigure 8 = .ok (.aload_n 0, 1) := by decide +kernel
theorem dX7_isFigure_9 : decode cX7_isFigure 9 = .ok (.getfield 9, 3) := by decide +kernel
theorem dX7_isFigure_12 : decode cX7_isFigure 12 = .ok (.iload_n 1, 1) := by decide +kernel
theorem dX7_isFigure_13 : decode cX7_isFigure 13 = .ok (.iaload, 1) := by decide +kernel
theorem dX7_isFigure_14 : decode cX7_isFigure 14 = .ok (.bipush 48, 2) := by decide +kernel
theorem dX7_isFigure_16 : decode cX7_isFigure 16 = .ok (.if_icmp .lt 18, 3) := by decide +kernel
theorem dX7_isFigure_19 : decode cX7_isFigure 19 = .ok (.aload_n 0, 1) := by decide +kernel
theorem dX7_isFigure_20 : decode cX7_isFigure 20 = .ok (.getfield 9, 3) := by decide +kernel
theorem dX7_isFigure_23 : decode cX7_isFigure 23 = .ok (.iload_n 1, 1) := by decide +kernel
theorem dX7_isFigure_24 : decode cX7_isFigure 24 = .ok (.iaload, 1) := by decide +kernel
theorem dX7_isFigure_25 : decode cX7_isFigure 25 = .ok (.bipush 57, 2) := by decide +kernel
theorem dX7_isFigure_27 : decode cX7_isFigure 27 = .ok (.if_icmp .gt 7, 3) := by decide +kernel
theorem dX7_isFigure_30 : decode cX7_isFigure 30 = .ok (.iconst 1, 1) := by decide +kernel
theorem dX7_isFigure_31 : decode cX7_isFigure 31 = .ok (.goto 4, 3) := by decide +kernel
theorem dX7_isFigure_34 : decode cX7_isFigure 34 = .ok (.iconst 0, 1) := by decide +kernel
theorem dX7_isFigure_35 : decode cX7_isFigure 35 = .ok (.ireturn, 1) := by decide +kernel
theorem dX7_takeItem_0 : decode cX7_takeItem 0 = .ok (.iload_n 1, 1) := by decide +kernel
theorem dX7_takeItem_1 : decode cX7_takeItem 1 = .ok (.bipush 112, 2) := by decide +kernel
theorem dX7_takeItem_3 : decode cX7_takeItem 3 = .ok (.if_icmp .ne 26, 3) := by decide +kernel
theorem dX7_takeItem_6 : decode cX7_takeItem 6 = .ok (.aload_n 2, 1) := by decide +kernel
theorem dX7_takeItem_7 : decode cX7_takeItem 7 = .ok (.aload_n 0, 1) := by decide +kernel
theorem dX7_takeItem_8 : decode cX7_takeItem 8 = .ok (.getfield 19, 3) := by decide +kernel
theorem dX7_takeItem_11 : decode cX7_takeItem 11 = .ok (.iconst 0, 1) := by decide +kernel
theorem dX7_takeItem_12 : decode cX7_takeItem 12 = .ok (.iaload, 1) := by decide +kernel
theorem dX7_takeItem_13 : decode cX7_takeItem 13 = .ok (.aload_n 0, 1) := by decide +kernel
theorem dX7_takeItem_14 : decode cX7_takeItem 14 = .ok (.getfield 19, 3) := by decide +kernel
theorem dX7_takeItem_17 : decode cX7_takeItem 17 = .ok (.iconst 1, 1) := by decide +kernel
theorem dX7_takeItem_18 : decode cX7_takeItem 18 = .ok (.iaload, 1) := by decide +kernel
theorem dX7_takeItem_19 : decode cX7_takeItem 19 = .ok (.aload_n 0, 1) := by decide +kernel
theorem dX7_takeItem_20 : decode cX7_takeItem 20 = .ok (.getfield 19, 3) := by decide +kernel
theorem dX7_takeItem_23 : decode cX7_takeItem 23 = .ok (.iconst 2, 1) := by decide +kernel
theorem dX7_takeItem_24 : decode cX7_takeItem 24 = .ok (.iaload, 1) := by decide +kernel
theorem dX7_takeItem_25 : decode cX7_takeItem 25 = .ok (.invokevirtual 47, 3) := by decide +kernel
theorem dX7_takeItem_28 : decode cX7_takeItem 28 = .ok (.ireturn, 1) := by decide +kernel
theorem dX7_takeItem_29 : decode cX7_takeItem 29 = .ok (.iload_n 1, 1) := by decide +kernel
theorem dX7_takeItem_30 : decode cX7_takeItem 30 = .ok (.bipush 108, 2) := by decide +kernel
theorem dX7_takeItem_32 : decode cX7_takeItem 32 = .ok (.if_icmp .ne 26, 3) := by decide +kernel
theorem dX7_takeItem_35 : decode cX7_takeItem 35 = .ok (.aload_n 2, 1) := by decide +kernel
theorem dX7_takeItem_36 : decode cX7_takeItem 36 = .ok (.aload_n 0, 1) := by decide +kernel
theorem dX7_takeItem_37 : decode cX7_takeItem 37 = .ok (.getfield 19, 3) := by decide +kernel
theorem dX7_takeItem_40 : decode cX7_takeItem 40 = .ok (.iconst 0, 1) := by decide +kernel
theorem dX7_takeItem_41 : decode cX7_takeItem 41 = .ok (.iaload, 1) := by decide +kernel
theorem dX7_takeItem_42 : decode cX7_takeItem 42 = .ok (.aload_n 0, 1) := by decide +kernel
theorem dX7_takeItem_43 : decode cX7_takeItem 43 = .ok (.getfield 19, 3) := by decide +kernel
theorem dX7_takeItem_46 : decode cX7_takeItem 46 = .ok (.iconst 1, 1) := by decide +kernel
theorem dX7_takeItem_47 : decode cX7_takeItem 47 = .ok (.iaload, 1) := by decide +kernel
theorem dX7_takeItem_48 : decode cX7_takeItem 48 = .ok (.aload_n 0, 1) := by decide +kernel
theorem dX7_takeItem_49 : decode cX7_takeItem 49 = .ok (.getfield 19, 3) := by decide +kernel
theorem dX7_takeItem_52 : decode cX7_takeItem 52 = .ok (.iconst 2, 1) := by decide +kernel
theorem dX7_takeItem_53 : decode cX7_takeItem 53 = .ok (.iaload, 1) := by decide +kernel
theorem dX7_takeItem_54 : decode cX7_takeItem 54 = .ok (.invokevirtual 51, 3) := by decide +kernel
theorem dX7_takeItem_57 : decode cX7_takeItem 57 = .ok (.ireturn, 1) := by decide +kernel
theorem dX7_takeItem_58 : decode cX7_takeItem 58 = .ok (.aload_n 2, 1) := by decide +kernel
theorem dX7_takeItem_59 : decode cX7_takeItem 59 = .ok (.aload_n 0, 1) := by decide +kernel
theorem dX7_takeItem_60 : decode cX7_takeItem 60 = .ok (.getfield 19, 3) := by decide +kernel
theorem dX7_takeItem_63 : decode cX7_takeItem 63 = .ok (.iconst 0, 1) := by decide +kernel
theorem dX7_takeItem_64 : decode cX7_takeItem 64 = .ok (.iaload, 1) := by decide +kernel
theorem dX7_takeItem_65 : decode cX7_takeItem 65 = .ok (.invokevirtual 54, 3) := by decide +kernel
theorem dX7_takeItem_68 : decode cX7_takeItem 68 = .ok (.ireturn, 1) := by decide +kernel
theorem dX8_init_0 : decode cX8_init 0 = .ok (.aload_n 0, 1) := by decide +kernel
theorem dX8_init_1 : decode cX8_init 1 = .ok (.invokespecial 3, 3) := by decide +kernel
theorem dX8_init_4 : decode cX8_init 4 = .ok (.aload_n 0, 1) := by decide +kernel
theorem dX8_init_5 : decode cX8_init 5 = .ok (.iconst 0, 1) := by decide +kernel
theorem dX8_init_6 : decode cX8_init 6 = .ok (.putfield 9, 3) := by decide +kernel
theorem dX8_init_9 : decode cX8_init 9 = .ok (.aload_n 0, 1) := by decide +kernel
theorem dX8_init_10 : decode cX8_init 10 = .ok (.iconst 0, 1) := by decide +kernel
theorem dX8_init_11 : decode cX8_init 11 = .ok (.putfield 15, 3) := by decide +kernel
theorem dX8_init_14 : decode cX8_init 14 = .ok (.return_, 1) := by decide +kernel
theorem dX8_comesToRest_0 : decode cX8_comesToRest 0 = .ok (.aload_n 1, 1) := by decide +kernel
theorem dX8_comesToRest_1 : decode cX8_comesToRest 1 = .ok (.invokevirtual 18, 3) := by decide +kernel
theorem dX8_comesToRest_4 : decode cX8_comesToRest 4 = .ok (.istore_n 3, 1) := by decide +kernel
theorem dX8_comesToRest_5 : decode cX8_comesToRest 5 = .ok (.iload_n 2, 1) := by decide +kernel
theorem dX8_comesToRest_6 : decode cX8_comesToRest 6 = .ok (.istore 4, 2) := by decide +kernel
theorem dX8_comesToRest_8 : decode cX8_comesToRest 8 = .ok (.iconst 1, 1) := by decide +kernel
theorem dX8_comesToRest_9 : decode cX8_comesToRest 9 = .ok (.istore 5, 2) := by decide +kernel
theorem dX8_comesToRest_11 : decode cX8_comesToRest 11 = .ok (.aload_n 0, 1) := by decide +kernel
theorem dX8_comesToRest_12 : decode cX8_comesToRest 12 = .ok (.iload_n 2, 1) := by decide +kernel
theorem dX8_comesToRest_13 : decode cX8_comesToRest 13 = .ok (.putfield 15, 3) := by decide +kernel
theorem dX8_comesToRest_16 : decode cX8_comesToRest 16 = .ok (.aload_n 0, 1) := by decide +kernel
theorem dX8_comesToRest_17 : decode cX8_comesToRest 17 = .ok (.iconst 0, 1) := by decide +kernel
theorem dX8_comesToRest_18 : decode cX8_comesToRest 18 = .ok (.putfield 9, 3) := by decide +kernel
theorem dX8_comesToRest_21 : decode cX8_comesToRest 21 = .ok (.aload_n 0, 1) := by decide +kernel
theorem dX8_comesToRest_22 : decode cX8_comesToRest 22 = .ok (.getfield 9, 3) := by decide +kernel
theorem dX8_comesToRest_25 : decode cX8_comesToRest 25 = .ok (.sipush 1000, 3) := by decide +kernel
theorem dX8_comesToRest_28 : decode cX8_comesToRest 28 = .ok (.if_icmp .gt 100, 3) := by decide +kernel
theorem dX8_comesToRest_31 : decode cX8_comesToRest 31 = .ok (.iconst 0, 1) := by decide +kernel
theorem dX8_comesToRest_32 : decode cX8_comesToRest 32 = .ok (.istore 6, 2) := by decide +kernel
theorem dX8_comesToRest_34 : decode cX8_comesToRest 34 = .ok (.iload 6, 2) := by decide +kernel
theorem dX8_comesToRest_36 : decode cX8_comesToRest 36 = .ok (.iload_n 3, 1) := by decide +kernel
theorem dX8_comesToRest_37 : decode cX8_comesToRest 37 = .ok (.if_icmp .ge 22, 3) := by decide +kernel
theorem dX8_comesToRest_40 : decode cX8_comesToRest 40 = .ok (.aload_n 1, 1) := by decide +kernel
theorem dX8_comesToRest_41 : decode cX8_comesToRest 41 = .ok (.aload_n 0, 1) := by decide +kernel
theorem dX8_comesToRest_42 : decode cX8_comesToRest 42 = .ok (.getfield 15, 3) := by decide +kernel
theorem dX8_comesToRest_45 : decode cX8_comesToRest 45 = .ok (.iload 6, 2) := by decide +kernel
theorem dX8_comesToRest_47 : decode cX8_comesToRest 47 = .ok (.invokevirtual 24, 3) := by decide +kernel
theorem dX8_comesToRest_50 : decode cX8_comesToRest 50 = .ok (.ifCond .ne 9, 3) := by decide +kernel
theorem dX8_comesToRest_53 : decode cX8_comesToRest 53 = .ok (.iinc 6 1, 3) := by decide +kernel
theorem dX8_comesToRest_56 : decode cX8_comesToRest 56 = .ok (.goto (-22), 3) := by decide +kernel
theorem dX8_comesToRest_59 : decode cX8_comesToRest 59 = .ok (.iload 6, 2) := by decide +kernel
theorem dX8_comesToRest_61 : decode cX8_comesToRest 61 = .ok (.iload_n 3, 1) := by decide +kernel
theorem dX8_comesToRest_62 : decode cX8_comesToRest 62 = .ok (.if_icmp .lt 5, 3) := by decide +kernel
theorem dX8_comesToRest_65 : decode cX8_comesToRest 65 = .ok (.iconst 1, 1) := by decide +kernel
theorem dX8_comesToRest_66 : decode cX8_comesToRest 66 = .ok (.ireturn, 1) := by decide +kernel
theorem dX8_comesToRest_67 : decode cX8_comesToRest 67 = .ok (.aload_n 0, 1) := by decide +kernel
theorem dX8_comesToRest_68 : decode cX8_comesToRest 68 = .ok (.aload_n 1, 1) := by decide +kernel
theorem dX8_comesToRest_69 : decode cX8_comesToRest 69 = .ok (.aload_n 0, 1) := by decide +kernel
theorem dX8_comesToRest_70 : decode cX8_comesToRest 70 = .ok (.getfield 15, 3) := by decide +kernel
theorem dX8_comesToRest_73 : decode cX8_comesToRest 73 = .ok (.iload 6, 2) := by decide +kernel
theorem dX8_comesToRest_75 : decode cX8_comesToRest 75 = .ok (.invokevirtual 28, 3) := by decide +kernel
theorem dX8_comesToRest_78 : decode cX8_comesToRest 78 = .ok (.putfield 15, 3) := by decide +kernel
theorem dX8_comesToRest_81 : decode cX8_comesToRest 81 = .ok (.aload_n 0, 1) := by decide +kernel
theorem dX8_comesToRest_82 : decode cX8_comesToRest 82 = .ok (.getfield 15, 3) := by decide +kernel
theorem dX8_comesToRest_85 : decode cX8_comesToRest 85 = .ok (.iload 4, 2) := by decide +kernel
theorem dX8_comesToRest_87 : decode cX8_comesToRest 87 = .ok (.if_icmp .ne 5, 3) := by decide +kernel
theorem dX8_comesToRest_90 : decode cX8_comesToRest 90 = .ok (.iconst 0, 1) := by decide +kernel
theorem dX8_comesToRest_91 : decode cX8_comesToRest 91 = .ok (.ireturn, 1) := by decide +kernel
theorem dX8_comesToRest_92 : decode cX8_comesToRest 92 = .ok (.aload_n 0, 1) := by decide +kernel
theorem dX8_comesToRest_93 : decode cX8_comesToRest 93 = .ok (.getfield 9, 3) := by decide +kernel
theorem dX8_comesToRest_96 : decode cX8_comesToRest 96 = .ok (.iload 5, 2) := by decide +kernel
theorem dX8_comesToRest_98 : decode cX8_comesToRest 98 = .ok (.if_icmp .ne 17, 3) := by decide +kernel
theorem dX8_comesToRest_101 : decode cX8_comesToRest 101 = .ok (.aload_n 0, 1) := by decide +kernel
theorem dX8_comesToRest_102 : decode cX8_comesToRest 102 = .ok (.getfield 15, 3) := by decide +kernel
theorem dX8_comesToRest_105 : decode cX8_comesToRest 105 = .ok (.istore 4, 2) := by decide +kernel
theorem dX8_comesToRest_107 : decode cX8_comesToRest 107 = .ok (.iconst 2, 1) := by decide +kernel
theorem dX8_comesToRest_108 : decode cX8_comesToRest 108 = .ok (.iload 5, 2) := by decide +kernel
theorem dX8_comesToRest_110 : decode cX8_comesToRest 110 = .ok (.imul, 1) := by decide +kernel
theorem dX8_comesToRest_111 : decode cX8_comesToRest 111 = .ok (.iconst 1, 1) := by decide +kernel
theorem dX8_comesToRest_112 : decode cX8_comesToRest 112 = .ok (.iadd, 1) := by decide +kernel
theorem dX8_comesToRest_113 : decode cX8_comesToRest 113 = .ok (.istore 5, 2) := by decide +kernel
theorem dX8_comesToRest_115 : decode cX8_comesToRest 115 = .ok (.aload_n 0, 1) := by decide +kernel
theorem dX8_comesToRest_116 : decode cX8_comesToRest 116 = .ok (.dup, 1) := by decide +kernel
theorem dX8_comesToRest_117 : decode cX8_comesToRest 117 = .ok (.getfield 9, 3) := by decide +kernel
theorem dX8_comesToRest_120 : decode cX8_comesToRest 120 = .ok (.iconst 1, 1) := by decide +kernel
theorem dX8_comesToRest_121 : decode cX8_comesToRest 121 = .ok (.iadd, 1) := by decide +kernel
theorem dX8_comesToRest_122 : decode cX8_comesToRest 122 = .ok (.putfield 9, 3) := by decide +kernel
theorem dX8_comesToRest_125 : decode cX8_comesToRest 125 = .ok (.goto (-104), 3) := by decide +kernel
theorem dX8_comesToRest_128 : decode cX8_comesToRest 128 = .ok (.iconst 0, 1) := by decide +kernel
theorem dX8_comesToRest_129 : decode cX8_comesToRest 129 = .ok (.ireturn, 1) := by decide +kernel
