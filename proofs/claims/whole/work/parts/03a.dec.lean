theorem dX2_init_0 : decode cX2_init 0 = .ok (.aload_n 0, 1) := by decide +kernel
theorem dX2_init_1 : decode cX2_init 1 = .ok (.invokespecial 3, 3) := by decide +kernel
theorem dX2_init_4 : decode cX2_init 4 = .ok (.aload_n 0, 1) := by decide +kernel
theorem dX2_init_5 : decode cX2_init 5 = .ok (.iconst 0, 1) := by decide +kernel
theorem dX2_init_6 : decode cX2_init 6 = .ok (.putfield 9, 3) := by decide +kernel
theorem dX2_init_9 : decode cX2_init 9 = .ok (.aload_n 0, 1) := by decide +kernel
theorem dX2_init_10 : decode cX2_init 10 = .ok (.iconst 0, 1) := by decide +kernel
theorem dX2_init_11 : decode cX2_init 11 = .ok (.putfield 15, 3) := by decide +kernel
theorem dX2_init_14 : decode cX2_init 14 = .ok (.aload_n 0, 1) := by decide +kernel
theorem dX2_init_15 : decode cX2_init 15 = .ok (.iconst 0, 1) := by decide +kernel
theorem dX2_init_16 : decode cX2_init 16 = .ok (.putfield 19, 3) := by decide +kernel
theorem dX2_init_19 : decode cX2_init 19 = .ok (.aload_n 0, 1) := by decide +kernel
theorem dX2_init_20 : decode cX2_init 20 = .ok (.bipush 8, 2) := by decide +kernel
theorem dX2_init_22 : decode cX2_init 22 = .ok (.newarray .int, 2) := by decide +kernel
theorem dX2_init_24 : decode cX2_init 24 = .ok (.putfield 22, 3) := by decide +kernel
theorem dX2_init_27 : decode cX2_init 27 = .ok (.aload_n 0, 1) := by decide +kernel
theorem dX2_init_28 : decode cX2_init 28 = .ok (.bipush 8, 2) := by decide +kernel
theorem dX2_init_30 : decode cX2_init 30 = .ok (.newarray .int, 2) := by decide +kernel
theorem dX2_init_32 : decode cX2_init 32 = .ok (.putfield 26, 3) := by decide +kernel
theorem dX2_init_35 : decode cX2_init 35 = .ok (.aload_n 0, 1) := by decide +kernel
theorem dX2_init_36 : decode cX2_init 36 = .ok (.bipush 8, 2) := by decide +kernel
theorem dX2_init_38 : decode cX2_init 38 = .ok (.newarray .int, 2) := by decide +kernel
theorem dX2_init_40 : decode cX2_init 40 = .ok (.putfield 29, 3) := by decide +kernel
theorem dX2_init_43 : decode cX2_init 43 = .ok (.aload_n 0, 1) := by decide +kernel
theorem dX2_init_44 : decode cX2_init 44 = .ok (.bipush 64, 2) := by decide +kernel
theorem dX2_init_46 : decode cX2_init 46 = .ok (.newarray .int, 2) := by decide +kernel
theorem dX2_init_48 : decode cX2_init 48 = .ok (.putfield 32, 3) := by decide +kernel
theorem dX2_init_51 : decode cX2_init 51 = .ok (.aload_n 0, 1) := by decide +kernel
theorem dX2_init_52 : decode cX2_init 52 = .ok (.invokevirtual 35, 3) := by decide +kernel
theorem dX2_init_55 : decode cX2_init 55 = .ok (.return_, 1) := by decide +kernel
theorem dX2_clear_0 : decode cX2_clear 0 = .ok (.aload_n 0, 1) := by decide +kernel
theorem dX2_clear_1 : decode cX2_clear 1 = .ok (.iconst 0, 1) := by decide +kernel
theorem dX2_clear_2 : decode cX2_clear 2 = .ok (.putfield 9, 3) := by decide +kernel
theorem dX2_clear_5 : decode cX2_clear 5 = .ok (.aload_n 0, 1) := by decide +kernel
theorem dX2_clear_6 : decode cX2_clear 6 = .ok (.iconst 0, 1) := by decide +kernel
theorem dX2_clear_7 : decode cX2_clear 7 = .ok (.putfield 15, 3) := by decide +kernel
theorem dX2_clear_10 : decode cX2_clear 10 = .ok (.aload_n 0, 1) := by decide +kernel
theorem dX2_clear_11 : decode cX2_clear 11 = .ok (.iconst 0, 1) := by decide +kernel
theorem dX2_clear_12 : decode cX2_clear 12 = .ok (.putfield 19, 3) := by decide +kernel
theorem dX2_clear_15 : decode cX2_clear 15 = .ok (.aload_n 0, 1) := by decide +kernel
theorem dX2_clear_16 : decode cX2_clear 16 = .ok (.getfield 32, 3) := by decide +kernel
theorem dX2_clear_19 : decode cX2_clear 19 = .ok (.bipush 50, 2) := by decide +kernel
theorem dX2_clear_21 : decode cX2_clear 21 = .ok (.invokestatic 38, 3) := by decide +kernel
theorem dX2_clear_24 : decode cX2_clear 24 = .ok (.return_, 1) := by decide +kernel
theorem dX2_addPerson_0 : decode cX2_addPerson 0 = .ok (.aload_n 0, 1) := by decide +kernel
theorem dX2_addPerson_1 : decode cX2_addPerson 1 = .ok (.getfield 9, 3) := by decide +kernel
theorem dX2_addPerson_4 : decode cX2_addPerson 4 = .ok (.bipush 6, 2) := by decide +kernel
theorem dX2_addPerson_6 : decode cX2_addPerson 6 = .ok (.if_icmp .ge 20, 3) := by decide +kernel
theorem dX2_addPerson_9 : decode cX2_addPerson 9 = .ok (.iload_n 1, 1) := by decide +kernel
theorem dX2_addPerson_10 : decode cX2_addPerson 10 = .ok (.bipush 6, 2) := by decide +kernel
theorem dX2_addPerson_12 : decode cX2_addPerson 12 = .ok (.if_icmp .ge 14, 3) := by decide +kernel
theorem dX2_addPerson_15 : decode cX2_addPerson 15 = .ok (.iload_n 2, 1) := by decide +kernel
theorem dX2_addPerson_16 : decode cX2_addPerson 16 = .ok (.bipush 20, 2) := by decide +kernel
theorem dX2_addPerson_18 : decode cX2_addPerson 18 = .ok (.if_icmp .gt 8, 3) := by decide +kernel
theorem dX2_addPerson_21 : decode cX2_addPerson 21 = .ok (.iload_n 3, 1) := by decide +kernel
theorem dX2_addPerson_22 : decode cX2_addPerson 22 = .ok (.iconst 4, 1) := by decide +kernel
theorem dX2_addPerson_23 : decode cX2_addPerson 23 = .ok (.if_icmp .le 5, 3) := by decide +kernel
theorem dX2_addPerson_26 : decode cX2_addPerson 26 = .ok (.iconst 0, 1) := by decide +kernel
theorem dX2_addPerson_27 : decode cX2_addPerson 27 = .ok (.ireturn, 1) := by decide +kernel
theorem dX2_addPerson_28 : decode cX2_addPerson 28 = .ok (.aload_n 0, 1) := by decide +kernel
theorem dX2_addPerson_29 : decode cX2_addPerson 29 = .ok (.getfield 22, 3) := by decide +kernel
theorem dX2_addPerson_32 : decode cX2_addPerson 32 = .ok (.aload_n 0, 1) := by decide +kernel
theorem dX2_addPerson_33 : decode cX2_addPerson 33 = .ok (.getfield 9, 3) := by decide +kernel
theorem dX2_addPerson_36 : decode cX2_addPerson 36 = .ok (.iload_n 1, 1) := by decide +kernel
theorem dX2_addPerson_37 : decode cX2_addPerson 37 = .ok (.iastore, 1) := by decide +kernel
theorem dX2_addPerson_38 : decode cX2_addPerson 38 = .ok (.aload_n 0, 1) := by decide +kernel
theorem dX2_addPerson_39 : decode cX2_addPerson 39 = .ok (.getfield 26, 3) := by decide +kernel
theorem dX2_addPerson_42 : decode cX2_addPerson 42 = .ok (.aload_n 0, 1) := by decide +kernel
theorem dX2_addPerson_43 : decode cX2_addPerson 43 = .ok (.getfield 9, 3) := by decide +kernel
theorem dX2_addPerson_46 : decode cX2_addPerson 46 = .ok (.iload_n 2, 1) := by decide +kernel
theorem dX2_addPerson_47 : decode cX2_addPerson 47 = .ok (.iastore, 1) := by decide +kernel
theorem dX2_addPerson_48 : decode cX2_addPerson 48 = .ok (.aload_n 0, 1) := by decide +kernel
theorem dX2_addPerson_49 : decode cX2_addPerson 49 = .ok (.getfield 29, 3) := by decide +kernel
theorem dX2_addPerson_52 : decode cX2_addPerson 52 = .ok (.aload_n 0, 1) := by decide +kernel
theorem dX2_addPerson_53 : decode cX2_addPerson 53 = .ok (.getfield 9, 3) := by decide +kernel
theorem dX2_addPerson_56 : decode cX2_addPerson 56 = .ok (.iload_n 3, 1) := by decide +kernel
theorem dX2_addPerson_57 : decode cX2_addPerson 57 = .ok (.iastore, 1) := by decide +kernel
theorem dX2_addPerson_58 : decode cX2_addPerson 58 = .ok (.aload_n 0, 1) := by decide +kernel
theorem dX2_addPerson_59 : decode cX2_addPerson 59 = .ok (.dup, 1) := by decide +kernel
theorem dX2_addPerson_60 : decode cX2_addPerson 60 = .ok (.getfield 9, 3) := by decide +kernel
theorem dX2_addPerson_63 : decode cX2_addPerson 63 = .ok (.iconst 1, 1) := by decide +kernel
theorem dX2_addPerson_64 : decode cX2_addPerson 64 = .ok (.iadd, 1) := by decide +kernel
theorem dX2_addPerson_65 : decode cX2_addPerson 65 = .ok (.putfield 9, 3) := by decide +kernel
theorem dX2_addPerson_68 : decode cX2_addPerson 68 = .ok (.aload_n 0, 1) := by decide +kernel
theorem dX2_addPerson_69 : decode cX2_addPerson 69 = .ok (.aload_n 0, 1) := by decide +kernel
theorem dX2_addPerson_70 : decode cX2_addPerson 70 = .ok (.getfield 19, 3) := by decide +kernel
theorem dX2_addPerson_73 : decode cX2_addPerson 73 = .ok (.iload_n 1, 1) := by decide +kernel
theorem dX2_addPerson_74 : decode cX2_addPerson 74 = .ok (.invokestatic 44, 3) := by decide +kernel
theorem dX2_addPerson_77 : decode cX2_addPerson 77 = .ok (.putfield 19, 3) := by decide +kernel
theorem dX2_addPerson_80 : decode cX2_addPerson 80 = .ok (.iconst 1, 1) := by decide +kernel
theorem dX2_addPerson_81 : decode cX2_addPerson 81 = .ok (.ireturn, 1) := by decide +kernel
theorem dX2_setLiking_0 : decode cX2_setLiking 0 = .ok (.iload_n 1, 1) := by decide +kernel
theorem dX2_setLiking_1 : decode cX2_setLiking 1 = .ok (.bipush 6, 2) := by decide +kernel
theorem dX2_setLiking_3 : decode cX2_setLiking 3 = .ok (.if_icmp .ge 14, 3) := by decide +kernel
theorem dX2_setLiking_6 : decode cX2_setLiking 6 = .ok (.iload_n 2, 1) := by decide +kernel
theorem dX2_setLiking_7 : decode cX2_setLiking 7 = .ok (.bipush 6, 2) := by decide +kernel
theorem dX2_setLiking_9 : decode cX2_setLiking 9 = .ok (.if_icmp .ge 8, 3) := by decide +kernel
theorem dX2_setLiking_12 : decode cX2_setLiking 12 = .ok (.iload_n 1, 1) := by decide +kernel
theorem dX2_setLiking_13 : decode cX2_setLiking 13 = .ok (.iload_n 2, 1) := by decide +kernel
theorem dX2_setLiking_14 : decode cX2_setLiking 14 = .ok (.if_icmp .ne 5, 3) := by decide +kernel
theorem dX2_setLiking_17 : decode cX2_setLiking 17 = .ok (.iconst 0, 1) := by decide +kernel
theorem dX2_setLiking_18 : decode cX2_setLiking 18 = .ok (.ireturn, 1) := by decide +kernel
theorem dX2_setLiking_19 : decode cX2_setLiking 19 = .ok (.aload_n 0, 1) := by decide +kernel
theorem dX2_setLiking_20 : decode cX2_setLiking 20 = .ok (.getfield 32, 3) := by decide +kernel
theorem dX2_setLiking_23 : decode cX2_setLiking 23 = .ok (.bipush 8, 2) := by decide +kernel
theorem dX2_setLiking_25 : decode cX2_setLiking 25 = .ok (.iload_n 1, 1) := by decide +kernel
theorem dX2_setLiking_26 : decode cX2_setLiking 26 = .ok (.imul, 1) := by decide +kernel
theorem dX2_setLiking_27 : decode cX2_setLiking 27 = .ok (.iload_n 2, 1) := by decide +kernel
theorem dX2_setLiking_28 : decode cX2_setLiking 28 = .ok (.iadd, 1) := by decide +kernel
theorem dX2_setLiking_29 : decode cX2_setLiking 29 = .ok (.iload_n 3, 1) := by decide +kernel
theorem dX2_setLiking_30 : decode cX2_setLiking 30 = .ok (.iastore, 1) := by decide +kernel
theorem dX2_setLiking_31 : decode cX2_setLiking 31 = .ok (.aload_n 0, 1) := by decide +kernel
theorem dX2_setLiking_32 : decode cX2_setLiking 32 = .ok (.aload_n 0, 1) := by decide +kernel
theorem dX2_setLiking_33 : decode cX2_setLiking 33 = .ok (.getfield 19, 3) := by decide +kernel
theorem dX2_setLiking_36 : decode cX2_setLiking 36 = .ok (.iload_n 1, 1) := by decide +kernel
theorem dX2_setLiking_37 : decode cX2_setLiking 37 = .ok (.iload_n 2, 1) := by decide +kernel
theorem dX2_setLiking_38 : decode cX2_setLiking 38 = .ok (.invokestatic 44, 3) := by decide +kernel
theorem dX2_setLiking_41 : decode cX2_setLiking 41 = .ok (.invokestatic 44, 3) := by decide +kernel
theorem dX2_setLiking_44 : decode cX2_setLiking 44 = .ok (.putfield 19, 3) := by decide +kernel
theorem dX2_setLiking_47 : decode cX2_setLiking 47 = .ok (.iconst 1, 1) := by decide +kernel
theorem dX2_setLiking_48 : decode cX2_setLiking 48 = .ok (.ireturn, 1) := by decide +kernel
theorem dX2_setRing_0 : decode cX2_setRing 0 = .ok (.iload_n 1, 1) := by decide +kernel
theorem dX2_setRing_1 : decode cX2_setRing 1 = .ok (.iconst 1, 1) := by decide +kernel
theorem dX2_setRing_2 : decode cX2_setRing 2 = .ok (.if_icmp .le 5, 3) := by decide +kernel
theorem dX2_setRing_5 : decode cX2_setRing 5 = .ok (.iconst 0, 1) := by decide +kernel
theorem dX2_setRing_6 : decode cX2_setRing 6 = .ok (.ireturn, 1) := by decide +kernel
theorem dX2_setRing_7 : decode cX2_setRing 7 = .ok (.aload_n 0, 1) := by decide +kernel
theorem dX2_setRing_8 : decode cX2_setRing 8 = .ok (.iload_n 1, 1) := by decide +kernel
theorem dX2_setRing_9 : decode cX2_setRing 9 = .ok (.iconst 1, 1) := by decide +kernel
theorem dX2_setRing_10 : decode cX2_setRing 10 = .ok (.if_icmp .ne 7, 3) := by decide +kernel
theorem dX2_setRing_13 : decode cX2_setRing 13 = .ok (.iconst 1, 1) := by decide +kernel
theorem dX2_setRing_14 : decode cX2_setRing 14 = .ok (.goto 4, 3) := by decide +kernel
theorem dX2_setRing_17 : decode cX2_setRing 17 = .ok (.iconst 0, 1) := by decide +kernel
theorem dX2_setRing_18 : decode cX2_setRing 18 = .ok (.putfield 15, 3) := by decide +kernel
theorem dX2_setRing_21 : decode cX2_setRing 21 = .ok (.iconst 1, 1) := by decide +kernel
theorem dX2_setRing_22 : decode cX2_setRing 22 = .ok (.ireturn, 1) := by decide +kernel
theorem dX2_canBeLaid_0 : decode cX2_canBeLaid 0 = .ok (.aload_n 0, 1) := by decide +kernel
theorem dX2_canBeLaid_1 : decode cX2_canBeLaid 1 = .ok (.getfield 9, 3) := by decide +kernel
theorem dX2_canBeLaid_4 : decode cX2_canBeLaid 4 = .ok (.iconst 2, 1) := by decide +kernel
theorem dX2_canBeLaid_5 : decode cX2_canBeLaid 5 = .ok (.if_icmp .lt 18, 3) := by decide +kernel
theorem dX2_canBeLaid_8 : decode cX2_canBeLaid 8 = .ok (.aload_n 0, 1) := by decide +kernel
theorem dX2_canBeLaid_9 : decode cX2_canBeLaid 9 = .ok (.getfield 19, 3) := by decide +kernel
theorem dX2_canBeLaid_12 : decode cX2_canBeLaid 12 = .ok (.aload_n 0, 1) := by decide +kernel
theorem dX2_canBeLaid_13 : decode cX2_canBeLaid 13 = .ok (.getfield 9, 3) := by decide +kernel
theorem dX2_canBeLaid_16 : decode cX2_canBeLaid 16 = .ok (.if_icmp .ge 7, 3) := by decide +kernel
theorem dX2_canBeLaid_19 : decode cX2_canBeLaid 19 = .ok (.iconst 1, 1) := by decide +kernel
theorem dX2_canBeLaid_20 : decode cX2_canBeLaid 20 = .ok (.goto 4, 3) := by decide +kernel
theorem dX2_canBeLaid_23 : decode cX2_canBeLaid 23 = .ok (.iconst 0, 1) := by decide +kernel
theorem dX2_canBeLaid_24 : decode cX2_canBeLaid 24 = .ok (.ireturn, 1) := by decide +kernel
theorem dX2_has_0 : decode cX2_has 0 = .ok (.iload_n 1, 1) := by decide +kernel
theorem dX2_has_1 : decode cX2_has 1 = .ok (.ifCond .lt 15, 3) := by decide +kernel
theorem dX2_has_4 : decode cX2_has 4 = .ok (.iload_n 1, 1) := by decide +kernel
theorem dX2_has_5 : decode cX2_has 5 = .ok (.aload_n 0, 1) := by decide +kernel
theorem dX2_has_6 : decode cX2_has 6 = .ok (.getfield 9, 3) := by decide +kernel
theorem dX2_has_9 : decode cX2_has 9 = .ok (.if_icmp .ge 7, 3) := by decide +kernel
theorem dX2_has_12 : decode cX2_has 12 = .ok (.iconst 1, 1) := by decide +kernel
theorem dX2_has_13 : decode cX2_has 13 = .ok (.goto 4, 3) := by decide +kernel
theorem dX2_has_16 : decode cX2_has 16 = .ok (.iconst 0, 1) := by decide +kernel
theorem dX2_has_17 : decode cX2_has 17 = .ok (.ireturn, 1) := by decide +kernel
theorem dX2_changeCount_0 : decode cX2_changeCount 0 = .ok (.aload_n 0, 1) := by decide +kernel
theorem dX2_changeCount_1 : decode cX2_changeCount 1 = .ok (.getfield 15, 3) := by decide +kernel
theorem dX2_changeCount_4 : decode cX2_changeCount 4 = .ok (.ifCond .eq 10, 3) := by decide +kernel
theorem dX2_changeCount_7 : decode cX2_changeCount 7 = .ok (.aload_n 0, 1) := by decide +kernel
theorem dX2_changeCount_8 : decode cX2_changeCount 8 = .ok (.getfield 9, 3) := by decide +kernel
theorem dX2_changeCount_11 : decode cX2_changeCount 11 = .ok (.goto 9, 3) := by decide +kernel
theorem dX2_changeCount_14 : decode cX2_changeCount 14 = .ok (.aload_n 0, 1) := by decide +kernel
theorem dX2_changeCount_15 : decode cX2_changeCount 15 = .ok (.getfield 9, 3) := by decide +kernel
theorem dX2_changeCount_18 : decode cX2_changeCount 18 = .ok (.iconst 1, 1) := by decide +kernel
theorem dX2_changeCount_19 : decode cX2_changeCount 19 = .ok (.isub, 1) := by decide +kernel
theorem dX2_changeCount_20 : decode cX2_changeCount 20 = .ok (.ireturn, 1) := by decide +kernel
theorem dX2_hasChange_0 : decode cX2_hasChange 0 = .ok (.iload_n 1, 1) := by decide +kernel
theorem dX2_hasChange_1 : decode cX2_hasChange 1 = .ok (.ifCond .lt 15, 3) := by decide +kernel
theorem dX2_hasChange_4 : decode cX2_hasChange 4 = .ok (.iload_n 1, 1) := by decide +kernel
theorem dX2_hasChange_5 : decode cX2_hasChange 5 = .ok (.aload_n 0, 1) := by decide +kernel
theorem dX2_hasChange_6 : decode cX2_hasChange 6 = .ok (.invokevirtual 50, 3) := by decide +kernel
theorem dX2_hasChange_9 : decode cX2_hasChange 9 = .ok (.if_icmp .ge 7, 3) := by decide +kernel
theorem dX2_hasChange_12 : decode cX2_hasChange 12 = .ok (.iconst 1, 1) := by decide +kernel
theorem dX2_hasChange_13 : decode cX2_hasChange 13 = .ok (.goto 4, 3) := by decide +kernel
theorem dX2_hasChange_16 : decode cX2_hasChange 16 = .ok (.iconst 0, 1) := by decide +kernel
theorem dX2_hasChange_17 : decode cX2_hasChange 17 = .ok (.ireturn, 1) := by decide +kernel
theorem dX2_hasRound_0 : decode cX2_hasRound 0 = .ok (.aload_n 0, 1) := by decide +kernel
theorem dX2_hasRound_1 : decode cX2_hasRound 1 = .ok (.getfield 9, 3) := by decide +kernel
theorem dX2_hasRound_4 : decode cX2_hasRound 4 = .ok (.iconst 3, 1) := by decide +kernel
theorem dX2_hasRound_5 : decode cX2_hasRound 5 = .ok (.if_icmp .lt 35, 3) := by decide +kernel
theorem dX2_hasRound_8 : decode cX2_hasRound 8 = .ok (.iload_n 1, 1) := by decide +kernel
theorem dX2_hasRound_9 : decode cX2_hasRound 9 = .ok (.ifCond .lt 31, 3) := by decide +kernel
theorem dX2_hasRound_12 : decode cX2_hasRound 12 = .ok (.iload_n 1, 1) := by decide +kernel
theorem dX2_hasRound_13 : decode cX2_hasRound 13 = .ok (.aload_n 0, 1) := by decide +kernel
theorem dX2_hasRound_14 : decode cX2_hasRound 14 = .ok (.getfield 15, 3) := by decide +kernel
theorem dX2_hasRound_17 : decode cX2_hasRound 17 = .ok (.ifCond .eq 10, 3) := by decide +kernel
theorem dX2_hasRound_20 : decode cX2_hasRound 20 = .ok (.aload_n 0, 1) := by decide +kernel
theorem dX2_hasRound_21 : decode cX2_hasRound 21 = .ok (.getfield 9, 3) := by decide +kernel
theorem dX2_hasRound_24 : decode cX2_hasRound 24 = .ok (.goto 9, 3) := by decide +kernel
theorem dX2_hasRound_27 : decode cX2_hasRound 27 = .ok (.aload_n 0, 1) := by decide +kernel
theorem dX2_hasRound_28 : decode cX2_hasRound 28 = .ok (.getfield 9, 3) := by decide +kernel
theorem dX2_hasRound_31 : decode cX2_hasRound 31 = .ok (.iconst 2, 1) := by decide +kernel
theorem dX2_hasRound_32 : decode cX2_hasRound 32 = .ok (.isub, 1) := by decide +kernel
theorem dX2_hasRound_33 : decode cX2_hasRound 33 = .ok (.if_icmp .ge 7, 3) := by decide +kernel
theorem dX2_hasRound_36 : decode cX2_hasRound 36 = .ok (.iconst 1, 1) := by decide +kernel
theorem dX2_hasRound_37 : decode cX2_hasRound 37 = .ok (.goto 4, 3) := by decide +kernel
theorem dX2_hasRound_40 : decode cX2_hasRound 40 = .ok (.iconst 0, 1) := by decide +kernel
theorem dX2_hasRound_41 : decode cX2_hasRound 41 = .ok (.ireturn, 1) := by decide +kernel
theorem dX2_after_0 : decode cX2_after 0 = .ok (.iload_n 1, 1) := by decide +kernel
theorem dX2_after_1 : decode cX2_after 1 = .ok (.iconst 1, 1) := by decide +kernel
theorem dX2_after_2 : decode cX2_after 2 = .ok (.iadd, 1) := by decide +kernel
theorem dX2_after_3 : decode cX2_after 3 = .ok (.aload_n 0, 1) := by decide +kernel
theorem dX2_after_4 : decode cX2_after 4 = .ok (.getfield 9, 3) := by decide +kernel
theorem dX2_after_7 : decode cX2_after 7 = .ok (.if_icmp .ge 9, 3) := by decide +kernel
theorem dX2_after_10 : decode cX2_after 10 = .ok (.iload_n 1, 1) := by decide +kernel
theorem dX2_after_11 : decode cX2_after 11 = .ok (.iconst 1, 1) := by decide +kernel
theorem dX2_after_12 : decode cX2_after 12 = .ok (.iadd, 1) := by decide +kernel
theorem dX2_after_13 : decode cX2_after 13 = .ok (.goto 4, 3) := by decide +kernel
theorem dX2_after_16 : decode cX2_after 16 = .ok (.iconst 0, 1) := by decide +kernel
theorem dX2_after_17 : decode cX2_after 17 = .ok (.ireturn, 1) := by decide +kernel
theorem dX2_changed_0 : decode cX2_changed 0 = .ok (.iload_n 1, 1) := by decide +kernel
theorem dX2_changed_1 : decode cX2_changed 1 = .ok (.iload_n 2, 1) := by decide +kernel
theorem dX2_changed_2 : decode cX2_changed 2 = .ok (.aload_n 0, 1) := by decide +kernel
theorem dX2_changed_3 : decode cX2_changed 3 = .ok (.iload_n 2, 1) := by decide +kernel
theorem dX2_changed_4 : decode cX2_changed 4 = .ok (.invokevirtual 54, 3) := by decide +kernel
theorem dX2_changed_7 : decode cX2_changed 7 = .ok (.invokestatic 58, 3) := by decide +kernel
theorem dX2_changed_10 : decode cX2_changed 10 = .ok (.ireturn, 1) := by decide +kernel
theorem dX2_turned_0 : decode cX2_turned 0 = .ok (.aload_n 0, 1) := by decide +kernel
theorem dX2_turned_1 : decode cX2_turned 1 = .ok (.iload_n 2, 1) := by decide +kernel
theorem dX2_turned_2 : decode cX2_turned 2 = .ok (.invokevirtual 54, 3) := by decide +kernel
theorem dX2_turned_5 : decode cX2_turned 5 = .ok (.istore_n 3, 1) := by decide +kernel
theorem dX2_turned_6 : decode cX2_turned 6 = .ok (.iload_n 1, 1) := by decide +kernel
theorem dX2_turned_7 : decode cX2_turned 7 = .ok (.iload_n 3, 1) := by decide +kernel
theorem dX2_turned_8 : decode cX2_turned 8 = .ok (.aload_n 0, 1) := by decide +kernel
theorem dX2_turned_9 : decode cX2_turned 9 = .ok (.iload_n 3, 1) := by decide +kernel
theorem dX2_turned_10 : decode cX2_turned 10 = .ok (.invokevirtual 54, 3) := by decide +kernel
theorem dX2_turned_13 : decode cX2_turned 13 = .ok (.invokestatic 58, 3) := by decide +kernel
theorem dX2_turned_16 : decode cX2_turned 16 = .ok (.iload_n 2, 1) := by decide +kernel
theorem dX2_turned_17 : decode cX2_turned 17 = .ok (.iload_n 3, 1) := by decide +kernel
theorem dX2_turned_18 : decode cX2_turned 18 = .ok (.invokestatic 58, 3) := by decide +kernel
theorem dX2_turned_21 : decode cX2_turned 21 = .ok (.ireturn, 1) := by decide +kernel
theorem dX2_liking_0 : decode cX2_liking 0 = .ok (.aload_n 0, 1) := by decide +kernel
theorem dX2_liking_1 : decode cX2_liking 1 = .ok (.getfield 32, 3) := by decide +kernel
theorem dX2_liking_4 : decode cX2_liking 4 = .ok (.bipush 8, 2) := by decide +kernel
theorem dX2_liking_6 : decode cX2_liking 6 = .ok (.iload_n 1, 1) := by decide +kernel
theorem dX2_liking_7 : decode cX2_liking 7 = .ok (.imul, 1) := by decide +kernel
theorem dX2_liking_8 : decode cX2_liking 8 = .ok (.iload_n 2, 1) := by decide +kernel
theorem dX2_liking_9 : decode cX2_liking 9 = .ok (.iadd, 1) := by decide +kernel
theorem dX2_liking_10 : decode cX2_liking 10 = .ok (.iaload, 1) := by decide +kernel
theorem dX2_liking_11 : decode cX2_liking 11 = .ok (.ireturn, 1) := by decide +kernel
theorem dX2_far_0 : decode cX2_far 0 = .ok (.iload_n 1, 1) := by decide +kernel
theorem dX2_far_1 : decode cX2_far 1 = .ok (.iload_n 2, 1) := by decide +kernel
theorem dX2_far_2 : decode cX2_far 2 = .ok (.if_icmp .ge 9, 3) := by decide +kernel
theorem dX2_far_5 : decode cX2_far 5 = .ok (.iload_n 2, 1) := by decide +kernel
theorem dX2_far_6 : decode cX2_far 6 = .ok (.iload_n 1, 1) := by decide +kernel
theorem dX2_far_7 : decode cX2_far 7 = .ok (.isub, 1) := by decide +kernel
theorem dX2_far_8 : decode cX2_far 8 = .ok (.goto 6, 3) := by decide +kernel
theorem dX2_far_11 : decode cX2_far 11 = .ok (.iload_n 1, 1) := by decide +kernel
theorem dX2_far_12 : decode cX2_far 12 = .ok (.iload_n 2, 1) := by decide +kernel
theorem dX2_far_13 : decode cX2_far 13 = .ok (.isub, 1) := by decide +kernel
theorem dX2_far_14 : decode cX2_far 14 = .ok (.istore_n 3, 1) := by decide +kernel
theorem dX2_far_15 : decode cX2_far 15 = .ok (.aload_n 0, 1) := by decide +kernel
theorem dX2_far_16 : decode cX2_far 16 = .ok (.getfield 15, 3) := by decide +kernel
theorem dX2_far_19 : decode cX2_far 19 = .ok (.ifCond .eq 22, 3) := by decide +kernel
theorem dX2_far_22 : decode cX2_far 22 = .ok (.aload_n 0, 1) := by decide +kernel
theorem dX2_far_23 : decode cX2_far 23 = .ok (.getfield 9, 3) := by decide +kernel
theorem dX2_far_26 : decode cX2_far 26 = .ok (.iload_n 3, 1) := by decide +kernel
theorem dX2_far_27 : decode cX2_far 27 = .ok (.isub, 1) := by decide +kernel
theorem dX2_far_28 : decode cX2_far 28 = .ok (.iload_n 3, 1) := by decide +kernel
theorem dX2_far_29 : decode cX2_far 29 = .ok (.if_icmp .ge 12, 3) := by decide +kernel
theorem dX2_far_32 : decode cX2_far 32 = .ok (.aload_n 0, 1) := by decide +kernel
theorem dX2_far_33 : decode cX2_far 33 = .ok (.getfield 9, 3) := by decide +kernel
theorem dX2_far_36 : decode cX2_far 36 = .ok (.iload_n 3, 1) := by decide +kernel
theorem dX2_far_37 : decode cX2_far 37 = .ok (.isub, 1) := by decide +kernel
theorem dX2_far_38 : decode cX2_far 38 = .ok (.goto 4, 3) := by decide +kernel
theorem dX2_far_41 : decode cX2_far 41 = .ok (.iload_n 3, 1) := by decide +kernel
theorem dX2_far_42 : decode cX2_far 42 = .ok (.ireturn, 1) := by decide +kernel
theorem dX2_worthAt_0 : decode cX2_worthAt 0 = .ok (.iload_n 1, 1) := by decide +kernel
theorem dX2_worthAt_1 : decode cX2_worthAt 1 = .ok (.iload_n 2, 1) := by decide +kernel
theorem dX2_worthAt_2 : decode cX2_worthAt 2 = .ok (.invokestatic 64, 3) := by decide +kernel
theorem dX2_worthAt_5 : decode cX2_worthAt 5 = .ok (.istore_n 3, 1) := by decide +kernel
theorem dX2_worthAt_6 : decode cX2_worthAt 6 = .ok (.iload_n 2, 1) := by decide +kernel
theorem dX2_worthAt_7 : decode cX2_worthAt 7 = .ok (.ifCond .le 9, 3) := by decide +kernel
theorem dX2_worthAt_10 : decode cX2_worthAt 10 = .ok (.iload_n 2, 1) := by decide +kernel
theorem dX2_worthAt_11 : decode cX2_worthAt 11 = .ok (.iconst 1, 1) := by decide +kernel
theorem dX2_worthAt_12 : decode cX2_worthAt 12 = .ok (.isub, 1) := by decide +kernel
theorem dX2_worthAt_13 : decode cX2_worthAt 13 = .ok (.goto 9, 3) := by decide +kernel
theorem dX2_worthAt_16 : decode cX2_worthAt 16 = .ok (.aload_n 0, 1) := by decide +kernel
theorem dX2_worthAt_17 : decode cX2_worthAt 17 = .ok (.getfield 9, 3) := by decide +kernel
theorem dX2_worthAt_20 : decode cX2_worthAt 20 = .ok (.iconst 1, 1) := by decide +kernel
theorem dX2_worthAt_21 : decode cX2_worthAt 21 = .ok (.isub, 1) := by decide +kernel
theorem dX2_worthAt_22 : decode cX2_worthAt 22 = .ok (.istore 4, 2) := by decide +kernel
theorem dX2_worthAt_24 : decode cX2_worthAt 24 = .ok (.aload_n 0, 1) := by decide +kernel
theorem dX2_worthAt_25 : decode cX2_worthAt 25 = .ok (.iload_n 2, 1) := by decide +kernel
theorem dX2_worthAt_26 : decode cX2_worthAt 26 = .ok (.invokevirtual 54, 3) := by decide +kernel
theorem dX2_worthAt_29 : decode cX2_worthAt 29 = .ok (.istore 5, 2) := by decide +kernel
theorem dX2_worthAt_31 : decode cX2_worthAt 31 = .ok (.bipush 100, 2) := by decide +kernel
theorem dX2_worthAt_33 : decode cX2_worthAt 33 = .ok (.aload_n 0, 1) := by decide +kernel
theorem dX2_worthAt_34 : decode cX2_worthAt 34 = .ok (.getfield 26, 3) := by decide +kernel
theorem dX2_worthAt_37 : decode cX2_worthAt 37 = .ok (.iload_n 3, 1) := by decide +kernel
theorem dX2_worthAt_38 : decode cX2_worthAt 38 = .ok (.iaload, 1) := by decide +kernel
theorem dX2_worthAt_39 : decode cX2_worthAt 39 = .ok (.aload_n 0, 1) := by decide +kernel
theorem dX2_worthAt_40 : decode cX2_worthAt 40 = .ok (.iload_n 2, 1) := by decide +kernel
theorem dX2_worthAt_41 : decode cX2_worthAt 41 = .ok (.aload_n 0, 1) := by decide +kernel
theorem dX2_worthAt_42 : decode cX2_worthAt 42 = .ok (.getfield 22, 3) := by decide +kernel
theorem dX2_worthAt_45 : decode cX2_worthAt 45 = .ok (.iload_n 3, 1) := by decide +kernel
theorem dX2_worthAt_46 : decode cX2_worthAt 46 = .ok (.iaload, 1) := by decide +kernel
theorem dX2_worthAt_47 : decode cX2_worthAt 47 = .ok (.invokevirtual 67, 3) := by decide +kernel
theorem dX2_worthAt_50 : decode cX2_worthAt 50 = .ok (.imul, 1) := by decide +kernel
theorem dX2_worthAt_51 : decode cX2_worthAt 51 = .ok (.isub, 1) := by decide +kernel
theorem dX2_worthAt_52 : decode cX2_worthAt 52 = .ok (.istore 6, 2) := by decide +kernel
theorem dX2_worthAt_54 : decode cX2_worthAt 54 = .ok (.aload_n 0, 1) := by decide +kernel
theorem dX2_worthAt_55 : decode cX2_worthAt 55 = .ok (.getfield 15, 3) := by decide +kernel
theorem dX2_worthAt_58 : decode cX2_worthAt 58 = .ok (.ifCond .ne 7, 3) := by decide +kernel
theorem dX2_worthAt_61 : decode cX2_worthAt 61 = .ok (.iload_n 2, 1) := by decide +kernel
theorem dX2_worthAt_62 : decode cX2_worthAt 62 = .ok (.ifCond .le 22, 3) := by decide +kernel
theorem dX2_worthAt_65 : decode cX2_worthAt 65 = .ok (.iload 6, 2) := by decide +kernel
theorem dX2_worthAt_67 : decode cX2_worthAt 67 = .ok (.aload_n 0, 1) := by decide +kernel
theorem dX2_worthAt_68 : decode cX2_worthAt 68 = .ok (.iload_n 3, 1) := by decide +kernel
theorem dX2_worthAt_69 : decode cX2_worthAt 69 = .ok (.iload_n 1, 1) := by decide +kernel
theorem dX2_worthAt_70 : decode cX2_worthAt 70 = .ok (.iload 4, 2) := by decide +kernel
theorem dX2_worthAt_72 : decode cX2_worthAt 72 = .ok (.invokestatic 64, 3) := by decide +kernel
theorem dX2_worthAt_75 : decode cX2_worthAt 75 = .ok (.invokevirtual 70, 3) := by decide +kernel
theorem dX2_worthAt_78 : decode cX2_worthAt 78 = .ok (.bipush 50, 2) := by decide +kernel
theorem dX2_worthAt_80 : decode cX2_worthAt 80 = .ok (.isub, 1) := by decide +kernel
theorem dX2_worthAt_81 : decode cX2_worthAt 81 = .ok (.iadd, 1) := by decide +kernel
theorem dX2_worthAt_82 : decode cX2_worthAt 82 = .ok (.istore 6, 2) := by decide +kernel
theorem dX2_worthAt_84 : decode cX2_worthAt 84 = .ok (.aload_n 0, 1) := by decide +kernel
theorem dX2_worthAt_85 : decode cX2_worthAt 85 = .ok (.getfield 15, 3) := by decide +kernel
theorem dX2_worthAt_88 : decode cX2_worthAt 88 = .ok (.ifCond .eq 13, 3) := by decide +kernel
theorem dX2_worthAt_91 : decode cX2_worthAt 91 = .ok (.iload 5, 2) := by decide +kernel
theorem dX2_worthAt_93 : decode cX2_worthAt 93 = .ok (.iload 4, 2) := by decide +kernel
theorem dX2_worthAt_95 : decode cX2_worthAt 95 = .ok (.if_icmp .eq 31, 3) := by decide +kernel
theorem dX2_worthAt_98 : decode cX2_worthAt 98 = .ok (.goto 9, 3) := by decide +kernel
theorem dX2_worthAt_101 : decode cX2_worthAt 101 = .ok (.iload 5, 2) := by decide +kernel
theorem dX2_worthAt_103 : decode cX2_worthAt 103 = .ok (.iload_n 2, 1) := by decide +kernel
theorem dX2_worthAt_104 : decode cX2_worthAt 104 = .ok (.if_icmp .le 22, 3) := by decide +kernel
theorem dX2_worthAt_107 : decode cX2_worthAt 107 = .ok (.iload 6, 2) := by decide +kernel
theorem dX2_worthAt_109 : decode cX2_worthAt 109 = .ok (.aload_n 0, 1) := by decide +kernel
theorem dX2_worthAt_110 : decode cX2_worthAt 110 = .ok (.iload_n 3, 1) := by decide +kernel
theorem dX2_worthAt_111 : decode cX2_worthAt 111 = .ok (.iload_n 1, 1) := by decide +kernel
theorem dX2_worthAt_112 : decode cX2_worthAt 112 = .ok (.iload 5, 2) := by decide +kernel
theorem dX2_worthAt_114 : decode cX2_worthAt 114 = .ok (.invokestatic 64, 3) := by decide +kernel
theorem dX2_worthAt_117 : decode cX2_worthAt 117 = .ok (.invokevirtual 70, 3) := by decide +kernel
theorem dX2_worthAt_120 : decode cX2_worthAt 120 = .ok (.bipush 50, 2) := by decide +kernel
theorem dX2_worthAt_122 : decode cX2_worthAt 122 = .ok (.isub, 1) := by decide +kernel
theorem dX2_worthAt_123 : decode cX2_worthAt 123 = .ok (.iadd, 1) := by decide +kernel
theorem dX2_worthAt_124 : decode cX2_worthAt 124 = .ok (.istore 6, 2) := by decide +kernel
theorem dX2_worthAt_126 : decode cX2_worthAt 126 = .ok (.iload 6, 2) := by decide +kernel
theorem dX2_worthAt_128 : decode cX2_worthAt 128 = .ok (.ireturn, 1) := by decide +kernel
theorem dX2_worthOf_0 : decode cX2_worthOf 0 = .ok (.aload_n 0, 1) := by decide +kernel
theorem dX2_worthOf_1 : decode cX2_worthOf 1 = .ok (.iload_n 1, 1) := by decide +kernel
theorem dX2_worthOf_2 : decode cX2_worthOf 2 = .ok (.iload_n 1, 1) := by decide +kernel
theorem dX2_worthOf_3 : decode cX2_worthOf 3 = .ok (.iload_n 2, 1) := by decide +kernel
theorem dX2_worthOf_4 : decode cX2_worthOf 4 = .ok (.invokestatic 73, 3) := by decide +kernel
theorem dX2_worthOf_7 : decode cX2_worthOf 7 = .ok (.invokevirtual 76, 3) := by decide +kernel
theorem dX2_worthOf_10 : decode cX2_worthOf 10 = .ok (.ireturn, 1) := by decide +kernel
theorem dX2_sumOfWorths_0 : decode cX2_sumOfWorths 0 = .ok (.iconst 0, 1) := by decide +kernel
theorem dX2_sumOfWorths_1 : decode cX2_sumOfWorths 1 = .ok (.istore_n 2, 1) := by decide +kernel
theorem dX2_sumOfWorths_2 : decode cX2_sumOfWorths 2 = .ok (.iconst 0, 1) := by decide +kernel
theorem dX2_sumOfWorths_3 : decode cX2_sumOfWorths 3 = .ok (.istore_n 3, 1) := by decide +kernel
theorem dX2_sumOfWorths_4 : decode cX2_sumOfWorths 4 = .ok (.iload_n 3, 1) := by decide +kernel
theorem dX2_sumOfWorths_5 : decode cX2_sumOfWorths 5 = .ok (.aload_n 0, 1) := by decide +kernel
theorem dX2_sumOfWorths_6 : decode cX2_sumOfWorths 6 = .ok (.getfield 9, 3) := by decide +kernel
theorem dX2_sumOfWorths_9 : decode cX2_sumOfWorths 9 = .ok (.if_icmp .ge 18, 3) := by decide +kernel
theorem dX2_sumOfWorths_12 : decode cX2_sumOfWorths 12 = .ok (.iload_n 2, 1) := by decide +kernel
theorem dX2_sumOfWorths_13 : decode cX2_sumOfWorths 13 = .ok (.aload_n 0, 1) := by decide +kernel
theorem dX2_sumOfWorths_14 : decode cX2_sumOfWorths 14 = .ok (.iload_n 1, 1) := by decide +kernel
theorem dX2_sumOfWorths_15 : decode cX2_sumOfWorths 15 = .ok (.iload_n 3, 1) := by decide +kernel
theorem dX2_sumOfWorths_16 : decode cX2_sumOfWorths 16 = .ok (.invokevirtual 76, 3) := by decide +kernel
theorem dX2_sumOfWorths_19 : decode cX2_sumOfWorths 19 = .ok (.iadd, 1) := by decide +kernel
theorem dX2_sumOfWorths_20 : decode cX2_sumOfWorths 20 = .ok (.istore_n 2, 1) := by decide +kernel
theorem dX2_sumOfWorths_21 : decode cX2_sumOfWorths 21 = .ok (.iinc 3 1, 3) := by decide +kernel
theorem dX2_sumOfWorths_24 : decode cX2_sumOfWorths 24 = .ok (.goto (-20), 3) := by decide +kernel
theorem dX2_sumOfWorths_27 : decode cX2_sumOfWorths 27 = .ok (.iload_n 2, 1) := by decide +kernel
theorem dX2_sumOfWorths_28 : decode cX2_sumOfWorths 28 = .ok (.ireturn, 1) := by decide +kernel
theorem dX2_missing_0 : decode cX2_missing 0 = .ok (.iload_n 0, 1) := by decide +kernel
theorem dX2_missing_1 : decode cX2_missing 1 = .ok (.tableswitch 57 0 3 #[31, 39, 46, 55], 31) := by decide +kernel
theorem dX2_missing_32 : decode cX2_missing 32 = .ok (.iconst 0, 1) := by decide +kernel
theorem dX2_missing_33 : decode cX2_missing 33 = .ok (.iconst 1, 1) := by decide +kernel
theorem dX2_missing_34 : decode cX2_missing 34 = .ok (.iload_n 1, 1) := by decide +kernel
theorem dX2_missing_35 : decode cX2_missing 35 = .ok (.isub, 1) := by decide +kernel
theorem dX2_missing_36 : decode cX2_missing 36 = .ok (.invokestatic 44, 3) := by decide +kernel
theorem dX2_missing_39 : decode cX2_missing 39 = .ok (.ireturn, 1) := by decide +kernel
theorem dX2_missing_40 : decode cX2_missing 40 = .ok (.iconst 0, 1) := by decide +kernel
theorem dX2_missing_41 : decode cX2_missing 41 = .ok (.iload_n 1, 1) := by decide +kernel
theorem dX2_missing_42 : decode cX2_missing 42 = .ok (.ineg, 1) := by decide +kernel
theorem dX2_missing_43 : decode cX2_missing 43 = .ok (.invokestatic 44, 3) := by decide +kernel
theorem dX2_missing_46 : decode cX2_missing 46 = .ok (.ireturn, 1) := by decide +kernel
theorem dX2_missing_47 : decode cX2_missing 47 = .ok (.iconst 0, 1) := by decide +kernel
theorem dX2_missing_48 : decode cX2_missing 48 = .ok (.bipush 10, 2) := by decide +kernel
theorem dX2_missing_50 : decode cX2_missing 50 = .ok (.iload_n 1, 1) := by decide +kernel
theorem dX2_missing_51 : decode cX2_missing 51 = .ok (.isub, 1) := by decide +kernel
theorem dX2_missing_52 : decode cX2_missing 52 = .ok (.invokestatic 44, 3) := by decide +kernel
theorem dX2_missing_55 : decode cX2_missing 55 = .ok (.ireturn, 1) := by decide +kernel
theorem dX2_missing_56 : decode cX2_missing 56 = .ok (.iconst (-1), 1) := by decide +kernel
theorem dX2_missing_57 : decode cX2_missing 57 = .ok (.ireturn, 1) := by decide +kernel
theorem dX2_missing_58 : decode cX2_missing 58 = .ok (.iconst 0, 1) := by decide +kernel
theorem dX2_missing_59 : decode cX2_missing 59 = .ok (.ireturn, 1) := by decide +kernel
theorem dX2_agrees_0 : decode cX2_agrees 0 = .ok (.aload_n 0, 1) := by decide +kernel
theorem dX2_agrees_1 : decode cX2_agrees 1 = .ok (.iload_n 2, 1) := by decide +kernel
theorem dX2_agrees_2 : decode cX2_agrees 2 = .ok (.iload 4, 2) := by decide +kernel
theorem dX2_agrees_4 : decode cX2_agrees 4 = .ok (.invokevirtual 76, 3) := by decide +kernel
theorem dX2_agrees_7 : decode cX2_agrees 7 = .ok (.aload_n 0, 1) := by decide +kernel
theorem dX2_agrees_8 : decode cX2_agrees 8 = .ok (.iload_n 1, 1) := by decide +kernel
theorem dX2_agrees_9 : decode cX2_agrees 9 = .ok (.iload_n 3, 1) := by decide +kernel
theorem dX2_agrees_10 : decode cX2_agrees 10 = .ok (.invokevirtual 76, 3) := by decide +kernel
theorem dX2_agrees_13 : decode cX2_agrees 13 = .ok (.isub, 1) := by decide +kernel
theorem dX2_agrees_14 : decode cX2_agrees 14 = .ok (.istore 5, 2) := by decide +kernel
theorem dX2_agrees_16 : decode cX2_agrees 16 = .ok (.aload_n 0, 1) := by decide +kernel
theorem dX2_agrees_17 : decode cX2_agrees 17 = .ok (.getfield 29, 3) := by decide +kernel
theorem dX2_agrees_20 : decode cX2_agrees 20 = .ok (.iload_n 1, 1) := by decide +kernel
theorem dX2_agrees_21 : decode cX2_agrees 21 = .ok (.iload_n 3, 1) := by decide +kernel
theorem dX2_agrees_22 : decode cX2_agrees 22 = .ok (.invokestatic 64, 3) := by decide +kernel
theorem dX2_agrees_25 : decode cX2_agrees 25 = .ok (.iaload, 1) := by decide +kernel
theorem dX2_agrees_26 : decode cX2_agrees 26 = .ok (.iload 5, 2) := by decide +kernel
theorem dX2_agrees_28 : decode cX2_agrees 28 = .ok (.invokestatic 79, 3) := by decide +kernel
theorem dX2_agrees_31 : decode cX2_agrees 31 = .ok (.ifCond .ne 7, 3) := by decide +kernel
theorem dX2_agrees_34 : decode cX2_agrees 34 = .ok (.iconst 1, 1) := by decide +kernel
theorem dX2_agrees_35 : decode cX2_agrees 35 = .ok (.goto 4, 3) := by decide +kernel
theorem dX2_agrees_38 : decode cX2_agrees 38 = .ok (.iconst 0, 1) := by decide +kernel
theorem dX2_agrees_39 : decode cX2_agrees 39 = .ok (.ireturn, 1) := by decide +kernel
theorem dX2_changeSuits_0 : decode cX2_changeSuits 0 = .ok (.aload_n 0, 1) := by decide +kernel
theorem dX2_changeSuits_1 : decode cX2_changeSuits 1 = .ok (.iload_n 2, 1) := by decide +kernel
theorem dX2_changeSuits_2 : decode cX2_changeSuits 2 = .ok (.invokevirtual 54, 3) := by decide +kernel
theorem dX2_changeSuits_5 : decode cX2_changeSuits 5 = .ok (.istore_n 3, 1) := by decide +kernel
theorem dX2_changeSuits_6 : decode cX2_changeSuits 6 = .ok (.aload_n 0, 1) := by decide +kernel
theorem dX2_changeSuits_7 : decode cX2_changeSuits 7 = .ok (.iload_n 1, 1) := by decide +kernel
theorem dX2_changeSuits_8 : decode cX2_changeSuits 8 = .ok (.iload_n 2, 1) := by decide +kernel
theorem dX2_changeSuits_9 : decode cX2_changeSuits 9 = .ok (.invokevirtual 82, 3) := by decide +kernel
theorem dX2_changeSuits_12 : decode cX2_changeSuits 12 = .ok (.istore 4, 2) := by decide +kernel
theorem dX2_changeSuits_14 : decode cX2_changeSuits 14 = .ok (.aload_n 0, 1) := by decide +kernel
theorem dX2_changeSuits_15 : decode cX2_changeSuits 15 = .ok (.iload_n 1, 1) := by decide +kernel
theorem dX2_changeSuits_16 : decode cX2_changeSuits 16 = .ok (.iload 4, 2) := by decide +kernel
theorem dX2_changeSuits_18 : decode cX2_changeSuits 18 = .ok (.iload_n 2, 1) := by decide +kernel
theorem dX2_changeSuits_19 : decode cX2_changeSuits 19 = .ok (.iload_n 3, 1) := by decide +kernel
theorem dX2_changeSuits_20 : decode cX2_changeSuits 20 = .ok (.invokevirtual 85, 3) := by decide +kernel
theorem dX2_changeSuits_23 : decode cX2_changeSuits 23 = .ok (.ifCond .eq 19, 3) := by decide +kernel
theorem dX2_changeSuits_26 : decode cX2_changeSuits 26 = .ok (.aload_n 0, 1) := by decide +kernel
theorem dX2_changeSuits_27 : decode cX2_changeSuits 27 = .ok (.iload_n 1, 1) := by decide +kernel
theorem dX2_changeSuits_28 : decode cX2_changeSuits 28 = .ok (.iload 4, 2) := by decide +kernel
theorem dX2_changeSuits_30 : decode cX2_changeSuits 30 = .ok (.iload_n 3, 1) := by decide +kernel
theorem dX2_changeSuits_31 : decode cX2_changeSuits 31 = .ok (.iload_n 2, 1) := by decide +kernel
theorem dX2_changeSuits_32 : decode cX2_changeSuits 32 = .ok (.invokevirtual 85, 3) := by decide +kernel
theorem dX2_changeSuits_35 : decode cX2_changeSuits 35 = .ok (.ifCond .eq 7, 3) := by decide +kernel
theorem dX2_changeSuits_38 : decode cX2_changeSuits 38 = .ok (.iconst 1, 1) := by decide +kernel
theorem dX2_changeSuits_39 : decode cX2_changeSuits 39 = .ok (.goto 4, 3) := by decide +kernel
theorem dX2_changeSuits_42 : decode cX2_changeSuits 42 = .ok (.iconst 0, 1) := by decide +kernel
theorem dX2_changeSuits_43 : decode cX2_changeSuits 43 = .ok (.ireturn, 1) := by decide +kernel
theorem dX2_roundSuits_0 : decode cX2_roundSuits 0 = .ok (.aload_n 0, 1) := by decide +kernel
theorem dX2_roundSuits_1 : decode cX2_roundSuits 1 = .ok (.iload_n 2, 1) := by decide +kernel
theorem dX2_roundSuits_2 : decode cX2_roundSuits 2 = .ok (.invokevirtual 54, 3) := by decide +kernel
theorem dX2_roundSuits_5 : decode cX2_roundSuits 5 = .ok (.istore_n 3, 1) := by decide +kernel
theorem dX2_roundSuits_6 : decode cX2_roundSuits 6 = .ok (.aload_n 0, 1) := by decide +kernel
theorem dX2_roundSuits_7 : decode cX2_roundSuits 7 = .ok (.iload_n 3, 1) := by decide +kernel
theorem dX2_roundSuits_8 : decode cX2_roundSuits 8 = .ok (.invokevirtual 54, 3) := by decide +kernel
theorem dX2_roundSuits_11 : decode cX2_roundSuits 11 = .ok (.istore 4, 2) := by decide +kernel
theorem dX2_roundSuits_13 : decode cX2_roundSuits 13 = .ok (.aload_n 0, 1) := by decide +kernel
theorem dX2_roundSuits_14 : decode cX2_roundSuits 14 = .ok (.iload_n 1, 1) := by decide +kernel
theorem dX2_roundSuits_15 : decode cX2_roundSuits 15 = .ok (.iload_n 2, 1) := by decide +kernel
theorem dX2_roundSuits_16 : decode cX2_roundSuits 16 = .ok (.invokevirtual 89, 3) := by decide +kernel
theorem dX2_roundSuits_19 : decode cX2_roundSuits 19 = .ok (.istore 5, 2) := by decide +kernel
theorem dX2_roundSuits_21 : decode cX2_roundSuits 21 = .ok (.aload_n 0, 1) := by decide +kernel
theorem dX2_roundSuits_22 : decode cX2_roundSuits 22 = .ok (.iload_n 1, 1) := by decide +kernel
theorem dX2_roundSuits_23 : decode cX2_roundSuits 23 = .ok (.iload 5, 2) := by decide +kernel
theorem dX2_roundSuits_25 : decode cX2_roundSuits 25 = .ok (.iload_n 2, 1) := by decide +kernel
theorem dX2_roundSuits_26 : decode cX2_roundSuits 26 = .ok (.iload_n 3, 1) := by decide +kernel
theorem dX2_roundSuits_27 : decode cX2_roundSuits 27 = .ok (.invokevirtual 85, 3) := by decide +kernel
theorem dX2_roundSuits_30 : decode cX2_roundSuits 30 = .ok (.ifCond .eq 33, 3) := by decide +kernel
theorem dX2_roundSuits_33 : decode cX2_roundSuits 33 = .ok (.aload_n 0, 1) := by decide +kernel
theorem dX2_roundSuits_34 : decode cX2_roundSuits 34 = .ok (.iload_n 1, 1) := by decide +kernel
theorem dX2_roundSuits_35 : decode cX2_roundSuits 35 = .ok (.iload 5, 2) := by decide +kernel
theorem dX2_roundSuits_37 : decode cX2_roundSuits 37 = .ok (.iload_n 3, 1) := by decide +kernel
theorem dX2_roundSuits_38 : decode cX2_roundSuits 38 = .ok (.iload 4, 2) := by decide +kernel
theorem dX2_roundSuits_40 : decode cX2_roundSuits 40 = .ok (.invokevirtual 85, 3) := by decide +kernel
theorem dX2_roundSuits_43 : decode cX2_roundSuits 43 = .ok (.ifCond .eq 20, 3) := by decide +kernel
theorem dX2_roundSuits_46 : decode cX2_roundSuits 46 = .ok (.aload_n 0, 1) := by decide +kernel
theorem dX2_roundSuits_47 : decode cX2_roundSuits 47 = .ok (.iload_n 1, 1) := by decide +kernel
theorem dX2_roundSuits_48 : decode cX2_roundSuits 48 = .ok (.iload 5, 2) := by decide +kernel
theorem dX2_roundSuits_50 : decode cX2_roundSuits 50 = .ok (.iload 4, 2) := by decide +kernel
theorem dX2_roundSuits_52 : decode cX2_roundSuits 52 = .ok (.iload_n 2, 1) := by decide +kernel
theorem dX2_roundSuits_53 : decode cX2_roundSuits 53 = .ok (.invokevirtual 85, 3) := by decide +kernel
theorem dX2_roundSuits_56 : decode cX2_roundSuits 56 = .ok (.ifCond .eq 7, 3) := by decide +kernel
theorem dX2_roundSuits_59 : decode cX2_roundSuits 59 = .ok (.iconst 1, 1) := by decide +kernel
theorem dX2_roundSuits_60 : decode cX2_roundSuits 60 = .ok (.goto 4, 3) := by decide +kernel
theorem dX2_roundSuits_63 : decode cX2_roundSuits 63 = .ok (.iconst 0, 1) := by decide +kernel
theorem dX2_roundSuits_64 : decode cX2_roundSuits 64 = .ok (.ireturn, 1) := by decide +kernel
theorem dX2_suitingCount_0 : decode cX2_suitingCount 0 = .ok (.iconst 0, 1) := by decide +kernel
theorem dX2_suitingCount_1 : decode cX2_suitingCount 1 = .ok (.istore_n 2, 1) := by decide +kernel
theorem dX2_suitingCount_2 : decode cX2_suitingCount 2 = .ok (.iconst 0, 1) := by decide +kernel
theorem dX2_suitingCount_3 : decode cX2_suitingCount 3 = .ok (.istore_n 3, 1) := by decide +kernel
theorem dX2_suitingCount_4 : decode cX2_suitingCount 4 = .ok (.iload_n 3, 1) := by decide +kernel
theorem dX2_suitingCount_5 : decode cX2_suitingCount 5 = .ok (.aload_n 0, 1) := by decide +kernel
theorem dX2_suitingCount_6 : decode cX2_suitingCount 6 = .ok (.invokevirtual 50, 3) := by decide +kernel
theorem dX2_suitingCount_9 : decode cX2_suitingCount 9 = .ok (.if_icmp .ge 21, 3) := by decide +kernel
theorem dX2_suitingCount_12 : decode cX2_suitingCount 12 = .ok (.aload_n 0, 1) := by decide +kernel
theorem dX2_suitingCount_13 : decode cX2_suitingCount 13 = .ok (.iload_n 1, 1) := by decide +kernel
theorem dX2_suitingCount_14 : decode cX2_suitingCount 14 = .ok (.iload_n 3, 1) := by decide +kernel
theorem dX2_suitingCount_15 : decode cX2_suitingCount 15 = .ok (.invokevirtual 92, 3) := by decide +kernel
theorem dX2_suitingCount_18 : decode cX2_suitingCount 18 = .ok (.ifCond .eq 6, 3) := by decide +kernel
theorem dX2_suitingCount_21 : decode cX2_suitingCount 21 = .ok (.iinc 2 1, 3) := by decide +kernel
theorem dX2_suitingCount_24 : decode cX2_suitingCount 24 = .ok (.iinc 3 1, 3) := by decide +kernel
theorem dX2_suitingCount_27 : decode cX2_suitingCount 27 = .ok (.goto (-23), 3) := by decide +kernel
theorem dX2_suitingCount_30 : decode cX2_suitingCount 30 = .ok (.iload_n 2, 1) := by decide +kernel
theorem dX2_suitingCount_31 : decode cX2_suitingCount 31 = .ok (.ireturn, 1) := by decide +kernel
theorem dX3_init_0 : decode cX3_init 0 = .ok (.aload_n 0, 1) := by decide +kernel
theorem dX3_init_1 : decode cX3_init 1 = .ok (.invokespecial 1, 3) := by decide +kernel
theorem dX3_init_4 : decode cX3_init 4 = .ok (.aload_n 0, 1) := by decide +kernel
theorem dX3_init_5 : decode cX3_init 5 = .ok (.iconst 0, 1) := by decide +kernel
theorem dX3_init_6 : decode cX3_init 6 = .ok (.putfield 7, 3) := by decide +kernel
theorem dX3_init_9 : decode cX3_init 9 = .ok (.aload_n 0, 1) := by decide +kernel
theorem dX3_init_10 : decode cX3_init 10 = .ok (.iconst 1, 1) := by decide +kernel
theorem dX3_init_11 : decode cX3_init 11 = .ok (.iload_n 1, 1) := by decide +kernel
theorem dX3_init_12 : decode cX3_init 12 = .ok (.invokestatic 13, 3) := by decide +kernel
theorem dX3_init_15 : decode cX3_init 15 = .ok (.newarray .int, 2) := by decide +kernel
theorem dX3_init_17 : decode cX3_init 17 = .ok (.putfield 19, 3) := by decide +kernel
theorem dX3_init_20 : decode cX3_init 20 = .ok (.return_, 1) := by decide +kernel
theorem dX3_isFull_0 : decode cX3_isFull 0 = .ok (.aload_n 0, 1) := by decide +kernel
theorem dX3_isFull_1 : decode cX3_isFull 1 = .ok (.getfield 7, 3) := by decide +kernel
theorem dX3_isFull_4 : decode cX3_isFull 4 = .ok (.aload_n 0, 1) := by decide +kernel
theorem dX3_isFull_5 : decode cX3_isFull 5 = .ok (.getfield 19, 3) := by decide +kernel
theorem dX3_isFull_8 : decode cX3_isFull 8 = .ok (.arraylength, 1) := by decide +kernel
theorem dX3_isFull_9 : decode cX3_isFull 9 = .ok (.if_icmp .lt 7, 3) := by decide +kernel
theorem dX3_isFull_12 : decode cX3_isFull 12 = .ok (.iconst 1, 1) := by decide +kernel
theorem dX3_isFull_13 : decode cX3_isFull 13 = .ok (.goto 4, 3) := by decide +kernel
theorem dX3_isFull_16 : decode cX3_isFull 16 = .ok (.iconst 0, 1) := by decide +kernel
theorem dX3_isFull_17 : decode cX3_isFull 17 = .ok (.ireturn, 1) := by decide +kernel
theorem dX3_get_0 : decode cX3_get 0 = .ok (.iload_n 1, 1) := by decide +kernel
theorem dX3_get_1 : decode cX3_get 1 = .ok (.ifCond .lt 20, 3) := by decide +kernel
theorem dX3_get_4 : decode cX3_get 4 = .ok (.iload_n 1, 1) := by decide +kernel
theorem dX3_get_5 : decode cX3_get 5 = .ok (.aload_n 0, 1) := by decide +kernel
theorem dX3_get_6 : decode cX3_get 6 = .ok (.getfield 7, 3) := by decide +kernel
theorem dX3_get_9 : decode cX3_get 9 = .ok (.if_icmp .ge 12, 3) := by decide +kernel
theorem dX3_get_12 : decode cX3_get 12 = .ok (.aload_n 0, 1) := by decide +kernel
theorem dX3_get_13 : decode cX3_get 13 = .ok (.getfield 19, 3) := by decide +kernel
theorem dX3_get_16 : decode cX3_get 16 = .ok (.iload_n 1, 1) := by decide +kernel
theorem dX3_get_17 : decode cX3_get 17 = .ok (.iaload, 1) := by decide +kernel
theorem dX3_get_18 : decode cX3_get 18 = .ok (.goto 4, 3) := by decide +kernel
theorem dX3_get_21 : decode cX3_get 21 = .ok (.iconst 0, 1) := by decide +kernel
theorem dX3_get_22 : decode cX3_get 22 = .ok (.ireturn, 1) := by decide +kernel
theorem dX3_push_0 : decode cX3_push 0 = .ok (.aload_n 0, 1) := by decide +kernel
theorem dX3_push_1 : decode cX3_push 1 = .ok (.invokevirtual 23, 3) := by decide +kernel
theorem dX3_push_4 : decode cX3_push 4 = .ok (.ifCond .ne 23, 3) := by decide +kernel
theorem dX3_push_7 : decode cX3_push 7 = .ok (.aload_n 0, 1) := by decide +kernel
theorem dX3_push_8 : decode cX3_push 8 = .ok (.getfield 19, 3) := by decide +kernel
theorem dX3_push_11 : decode cX3_push 11 = .ok (.aload_n 0, 1) := by decide +kernel
theorem dX3_push_12 : decode cX3_push 12 = .ok (.getfield 7, 3) := by decide +kernel
theorem dX3_push_15 : decode cX3_push 15 = .ok (.iload_n 1, 1) := by decide +kernel
theorem dX3_push_16 : decode cX3_push 16 = .ok (.iastore, 1) := by decide +kernel
theorem dX3_push_17 : decode cX3_push 17 = .ok (.aload_n 0, 1) := by decide +kernel
theorem dX3_push_18 : decode cX3_push 18 = .ok (.dup, 1) := by decide +kernel
theorem dX3_push_19 : decode cX3_push 19 = .ok (.getfield 7, 3) := by decide +kernel
theorem dX3_push_22 : decode cX3_push 22 = .ok (.iconst 1, 1) := by decide +kernel
theorem dX3_push_23 : decode cX3_push 23 = .ok (.iadd, 1) := by decide +kernel
theorem dX3_push_24 : decode cX3_push 24 = .ok (.putfield 7, 3) := by decide +kernel
theorem dX3_push_27 : decode cX3_push 27 = .ok (.return_, 1) := by decide +kernel
theorem dX3_pop_0 : decode cX3_pop 0 = .ok (.aload_n 0, 1) := by decide +kernel
theorem dX3_pop_1 : decode cX3_pop 1 = .ok (.getfield 7, 3) := by decide +kernel
theorem dX3_pop_4 : decode cX3_pop 4 = .ok (.ifCond .ne 5, 3) := by decide +kernel
theorem dX3_pop_7 : decode cX3_pop 7 = .ok (.iconst 0, 1) := by decide +kernel
theorem dX3_pop_8 : decode cX3_pop 8 = .ok (.ireturn, 1) := by decide +kernel
theorem dX3_pop_9 : decode cX3_pop 9 = .ok (.aload_n 0, 1) := by decide +kernel
theorem dX3_pop_10 : decode cX3_pop 10 = .ok (.dup, 1) := by decide +kernel
theorem dX3_pop_11 : decode cX3_pop 11 = .ok (.getfield 7, 3) := by decide +kernel
theorem dX3_pop_14 : decode cX3_pop 14 = .ok (.iconst 1, 1) := by decide +kernel
theorem dX3_pop_15 : decode cX3_pop 15 = .ok (.isub, 1) := by decide +kernel
theorem dX3_pop_16 : decode cX3_pop 16 = .ok (.putfield 7, 3) := by decide +kernel
theorem dX3_pop_19 : decode cX3_pop 19 = .ok (.aload_n 0, 1) := by decide +kernel
theorem dX3_pop_20 : decode cX3_pop 20 = .ok (.getfield 19, 3) := by decide +kernel
theorem dX3_pop_23 : decode cX3_pop 23 = .ok (.aload_n 0, 1) := by decide +kernel
theorem dX3_pop_24 : decode cX3_pop 24 = .ok (.getfield 7, 3) := by decide +kernel
theorem dX3_pop_27 : decode cX3_pop 27 = .ok (.iaload, 1) := by decide +kernel
theorem dX3_pop_28 : decode cX3_pop 28 = .ok (.ireturn, 1) := by decide +kernel
theorem dX3_dropOldest_0 : decode cX3_dropOldest 0 = .ok (.aload_n 0, 1) := by decide +kernel
theorem dX3_dropOldest_1 : decode cX3_dropOldest 1 = .ok (.getfield 7, 3) := by decide +kernel
theorem dX3_dropOldest_4 : decode cX3_dropOldest 4 = .ok (.ifCond .le 32, 3) := by decide +kernel
theorem dX3_dropOldest_7 : decode cX3_dropOldest 7 = .ok (.aload_n 0, 1) := by decide +kernel
theorem dX3_dropOldest_8 : decode cX3_dropOldest 8 = .ok (.getfield 19, 3) := by decide +kernel
theorem dX3_dropOldest_11 : decode cX3_dropOldest 11 = .ok (.iconst 1, 1) := by decide +kernel
theorem dX3_dropOldest_12 : decode cX3_dropOldest 12 = .ok (.aload_n 0, 1) := by decide +kernel
theorem dX3_dropOldest_13 : decode cX3_dropOldest 13 = .ok (.getfield 19, 3) := by decide +kernel
theorem dX3_dropOldest_16 : decode cX3_dropOldest 16 = .ok (.iconst 0, 1) := by decide +kernel
theorem dX3_dropOldest_17 : decode cX3_dropOldest 17 = .ok (.aload_n 0, 1) := by decide +kernel
theorem dX3_dropOldest_18 : decode cX3_dropOldest 18 = .ok (.getfield 7, 3) := by decide +kernel
theorem dX3_dropOldest_21 : decode cX3_dropOldest 21 = .ok (.iconst 1, 1) := by decide +kernel
theorem dX3_dropOldest_22 : decode cX3_dropOldest 22 = .ok (.isub, 1) := by decide +kernel
theorem dX3_dropOldest_23 : decode cX3_dropOldest 23 = .ok (.invokestatic 27, 3) := by decide +kernel
theorem dX3_dropOldest_26 : decode cX3_dropOldest 26 = .ok (.aload_n 0, 1) := by decide +kernel
theorem dX3_dropOldest_27 : decode cX3_dropOldest 27 = .ok (.dup, 1) := by decide +kernel
theorem dX3_dropOldest_28 : decode cX3_dropOldest 28 = .ok (.getfield 7, 3) := by decide +kernel
theorem dX3_dropOldest_31 : decode cX3_dropOldest 31 = .ok (.iconst 1, 1) := by decide +kernel
theorem dX3_dropOldest_32 : decode cX3_dropOldest 32 = .ok (.isub, 1) := by decide +kernel
theorem dX3_dropOldest_33 : decode cX3_dropOldest 33 = .ok (.putfield 7, 3) := by decide +kernel
theorem dX3_dropOldest_36 : decode cX3_dropOldest 36 = .ok (.return_, 1) := by decide +kernel
theorem dX4_who_0 : decode cX4_who 0 = .ok (.iload_n 0, 1) := by decide +kernel
theorem dX4_who_1 : decode cX4_who 1 = .ok (.iconst 3, 1) := by decide +kernel
theorem dX4_who_2 : decode cX4_who 2 = .ok (.iload_n 1, 1) := by decide +kernel
theorem dX4_who_3 : decode cX4_who 3 = .ok (.imul, 1) := by decide +kernel
theorem dX4_who_4 : decode cX4_who 4 = .ok (.ishr, 1) := by decide +kernel
theorem dX4_who_5 : decode cX4_who 5 = .ok (.bipush 7, 2) := by decide +kernel
theorem dX4_who_7 : decode cX4_who 7 = .ok (.iand, 1) := by decide +kernel
theorem dX4_who_8 : decode cX4_who 8 = .ok (.ireturn, 1) := by decide +kernel
theorem dX4_ordered_0 : decode cX4_ordered 0 = .ok (.iconst 0, 1) := by decide +kernel
theorem dX4_ordered_1 : decode cX4_ordered 1 = .ok (.istore_n 1, 1) := by decide +kernel
theorem dX4_ordered_2 : decode cX4_ordered 2 = .ok (.iconst 0, 1) := by decide +kernel
theorem dX4_ordered_3 : decode cX4_ordered 3 = .ok (.istore_n 2, 1) := by decide +kernel
theorem dX4_ordered_4 : decode cX4_ordered 4 = .ok (.iload_n 2, 1) := by decide +kernel
theorem dX4_ordered_5 : decode cX4_ordered 5 = .ok (.iload_n 0, 1) := by decide +kernel
theorem dX4_ordered_6 : decode cX4_ordered 6 = .ok (.if_icmp .ge 17, 3) := by decide +kernel
theorem dX4_ordered_9 : decode cX4_ordered 9 = .ok (.iload_n 1, 1) := by decide +kernel
theorem dX4_ordered_10 : decode cX4_ordered 10 = .ok (.iload_n 2, 1) := by decide +kernel
theorem dX4_ordered_11 : decode cX4_ordered 11 = .ok (.iconst 3, 1) := by decide +kernel
theorem dX4_ordered_12 : decode cX4_ordered 12 = .ok (.iload_n 2, 1) := by decide +kernel
theorem dX4_ordered_13 : decode cX4_ordered 13 = .ok (.imul, 1) := by decide +kernel
theorem dX4_ordered_14 : decode cX4_ordered 14 = .ok (.ishl, 1) := by decide +kernel
theorem dX4_ordered_15 : decode cX4_ordered 15 = .ok (.ior, 1) := by decide +kernel
theorem dX4_ordered_16 : decode cX4_ordered 16 = .ok (.istore_n 1, 1) := by decide +kernel
theorem dX4_ordered_17 : decode cX4_ordered 17 = .ok (.iinc 2 1, 3) := by decide +kernel
theorem dX4_ordered_20 : decode cX4_ordered 20 = .ok (.goto (-16), 3) := by decide +kernel
theorem dX4_ordered_23 : decode cX4_ordered 23 = .ok (.iload_n 1, 1) := by decide +kernel
theorem dX4_ordered_24 : decode cX4_ordered 24 = .ok (.ireturn, 1) := by decide +kernel
theorem dX4_swapped_0 : decode cX4_swapped 0 = .ok (.iload_n 0, 1) := by decide +kernel
theorem dX4_swapped_1 : decode cX4_swapped 1 = .ok (.iload_n 1, 1) := by decide +kernel
theorem dX4_swapped_2 : decode cX4_swapped 2 = .ok (.invokestatic 9, 3) := by decide +kernel
theorem dX4_swapped_5 : decode cX4_swapped 5 = .ok (.iload_n 0, 1) := by decide +kernel
theorem dX4_swapped_6 : decode cX4_swapped 6 = .ok (.iload_n 2, 1) := by decide +kernel
theorem dX4_swapped_7 : decode cX4_swapped 7 = .ok (.invokestatic 9, 3) := by decide +kernel
theorem dX4_swapped_10 : decode cX4_swapped 10 = .ok (.ixor, 1) := by decide +kernel
theorem dX4_swapped_11 : decode cX4_swapped 11 = .ok (.istore_n 3, 1) := by decide +kernel
theorem dX4_swapped_12 : decode cX4_swapped 12 = .ok (.iload_n 0, 1) := by decide +kernel
theorem dX4_swapped_13 : decode cX4_swapped 13 = .ok (.iload_n 3, 1) := by decide +kernel
theorem dX4_swapped_14 : decode cX4_swapped 14 = .ok (.iconst 3, 1) := by decide +kernel
theorem dX4_swapped_15 : decode cX4_swapped 15 = .ok (.iload_n 1, 1) := by decide +kernel
theorem dX4_swapped_16 : decode cX4_swapped 16 = .ok (.imul, 1) := by decide +kernel
theorem dX4_swapped_17 : decode cX4_swapped 17 = .ok (.ishl, 1) := by decide +kernel
theorem dX4_swapped_18 : decode cX4_swapped 18 = .ok (.ixor, 1) := by decide +kernel
theorem dX4_swapped_19 : decode cX4_swapped 19 = .ok (.iload_n 3, 1) := by decide +kernel
theorem dX4_swapped_20 : decode cX4_swapped 20 = .ok (.iconst 3, 1) := by decide +kernel
theorem dX4_swapped_21 : decode cX4_swapped 21 = .ok (.iload_n 2, 1) := by decide +kernel
theorem dX4_swapped_22 : decode cX4_swapped 22 = .ok (.imul, 1) := by decide +kernel
theorem dX4_swapped_23 : decode cX4_swapped 23 = .ok (.ishl, 1) := by decide +kernel
theorem dX4_swapped_24 : decode cX4_swapped 24 = .ok (.ixor, 1) := by decide +kernel
theorem dX4_swapped_25 : decode cX4_swapped 25 = .ok (.ireturn, 1) := by decide +kernel
theorem dX4_placeOf_0 : decode cX4_placeOf 0 = .ok (.iconst 0, 1) := by decide +kernel
theorem dX4_placeOf_1 : decode cX4_placeOf 1 = .ok (.istore_n 2, 1) := by decide +kernel
theorem dX4_placeOf_2 : decode cX4_placeOf 2 = .ok (.iload_n 2, 1) := by decide +kernel
theorem dX4_placeOf_3 : decode cX4_placeOf 3 = .ok (.bipush 6, 2) := by decide +kernel
theorem dX4_placeOf_5 : decode cX4_placeOf 5 = .ok (.if_icmp .ge 20, 3) := by decide +kernel
theorem dX4_placeOf_8 : decode cX4_placeOf 8 = .ok (.iload_n 0, 1) := by decide +kernel
theorem dX4_placeOf_9 : decode cX4_placeOf 9 = .ok (.iload_n 2, 1) := by decide +kernel
theorem dX4_placeOf_10 : decode cX4_placeOf 10 = .ok (.invokestatic 9, 3) := by decide +kernel
theorem dX4_placeOf_13 : decode cX4_placeOf 13 = .ok (.iload_n 1, 1) := by decide +kernel
theorem dX4_placeOf_14 : decode cX4_placeOf 14 = .ok (.if_icmp .ne 5, 3) := by decide +kernel
theorem dX4_placeOf_17 : decode cX4_placeOf 17 = .ok (.iload_n 2, 1) := by decide +kernel
theorem dX4_placeOf_18 : decode cX4_placeOf 18 = .ok (.ireturn, 1) := by decide +kernel
theorem dX4_placeOf_19 : decode cX4_placeOf 19 = .ok (.iinc 2 1, 3) := by decide +kernel
theorem dX4_placeOf_22 : decode cX4_placeOf 22 = .ok (.goto (-20), 3) := by decide +kernel
theorem dX4_placeOf_25 : decode cX4_placeOf 25 = .ok (.iconst 0, 1) := by decide +kernel
theorem dX4_placeOf_26 : decode cX4_placeOf 26 = .ok (.ireturn, 1) := by decide +kernel
theorem dX4_following_0 : decode cX4_following 0 = .ok (.iload_n 1, 1) := by decide +kernel
theorem dX4_following_1 : decode cX4_following 1 = .ok (.iconst 2, 1) := by decide +kernel
theorem dX4_following_2 : decode cX4_following 2 = .ok (.isub, 1) := by decide +kernel
theorem dX4_following_3 : decode cX4_following 3 = .ok (.istore_n 2, 1) := by decide +kernel
theorem dX4_following_4 : decode cX4_following 4 = .ok (.iload_n 2, 1) := by decide +kernel
theorem dX4_following_5 : decode cX4_following 5 = .ok (.ifCond .lt 24, 3) := by decide +kernel
theorem dX4_following_8 : decode cX4_following 8 = .ok (.iload_n 0, 1) := by decide +kernel
theorem dX4_following_9 : decode cX4_following 9 = .ok (.iload_n 2, 1) := by decide +kernel
theorem dX4_following_10 : decode cX4_following 10 = .ok (.invokestatic 9, 3) := by decide +kernel
theorem dX4_following_13 : decode cX4_following 13 = .ok (.iload_n 0, 1) := by decide +kernel
theorem dX4_following_14 : decode cX4_following 14 = .ok (.iload_n 2, 1) := by decide +kernel
theorem dX4_following_15 : decode cX4_following 15 = .ok (.iconst 1, 1) := by decide +kernel
theorem dX4_following_16 : decode cX4_following 16 = .ok (.iadd, 1) := by decide +kernel
theorem dX4_following_17 : decode cX4_following 17 = .ok (.invokestatic 9, 3) := by decide +kernel
theorem dX4_following_20 : decode cX4_following 20 = .ok (.if_icmp .le 9, 3) := by decide +kernel
theorem dX4_following_23 : decode cX4_following 23 = .ok (.iinc 2 (-1), 3) := by decide +kernel
theorem dX4_following_26 : decode cX4_following 26 = .ok (.goto (-22), 3) := by decide +kernel
theorem dX4_following_29 : decode cX4_following 29 = .ok (.iload_n 2, 1) := by decide +kernel
theorem dX4_following_30 : decode cX4_following 30 = .ok (.ifCond .ge 5, 3) := by decide +kernel
theorem dX4_following_33 : decode cX4_following 33 = .ok (.iconst (-1), 1) := by decide +kernel
theorem dX4_following_34 : decode cX4_following 34 = .ok (.ireturn, 1) := by decide +kernel
theorem dX4_following_35 : decode cX4_following 35 = .ok (.iload_n 1, 1) := by decide +kernel
theorem dX4_following_36 : decode cX4_following 36 = .ok (.iconst 1, 1) := by decide +kernel
theorem dX4_following_37 : decode cX4_following 37 = .ok (.isub, 1) := by decide +kernel
theorem dX4_following_38 : decode cX4_following 38 = .ok (.istore_n 3, 1) := by decide +kernel
theorem dX4_following_39 : decode cX4_following 39 = .ok (.iload_n 3, 1) := by decide +kernel
theorem dX4_following_40 : decode cX4_following 40 = .ok (.iload_n 2, 1) := by decide +kernel
theorem dX4_following_41 : decode cX4_following 41 = .ok (.if_icmp .le 22, 3) := by decide +kernel
theorem dX4_following_44 : decode cX4_following 44 = .ok (.iload_n 0, 1) := by decide +kernel
theorem dX4_following_45 : decode cX4_following 45 = .ok (.iload_n 3, 1) := by decide +kernel
theorem dX4_following_46 : decode cX4_following 46 = .ok (.invokestatic 9, 3) := by decide +kernel
theorem dX4_following_49 : decode cX4_following 49 = .ok (.iload_n 0, 1) := by decide +kernel
theorem dX4_following_50 : decode cX4_following 50 = .ok (.iload_n 2, 1) := by decide +kernel
theorem dX4_following_51 : decode cX4_following 51 = .ok (.invokestatic 9, 3) := by decide +kernel
theorem dX4_following_54 : decode cX4_following 54 = .ok (.if_icmp .ge 9, 3) := by decide +kernel
theorem dX4_following_57 : decode cX4_following 57 = .ok (.iinc 3 (-1), 3) := by decide +kernel
theorem dX4_following_60 : decode cX4_following 60 = .ok (.goto (-21), 3) := by decide +kernel
theorem dX4_following_63 : decode cX4_following 63 = .ok (.iload_n 0, 1) := by decide +kernel
theorem dX4_following_64 : decode cX4_following 64 = .ok (.iload_n 2, 1) := by decide +kernel
theorem dX4_following_65 : decode cX4_following 65 = .ok (.iload_n 3, 1) := by decide +kernel
theorem dX4_following_66 : decode cX4_following 66 = .ok (.invokestatic 15, 3) := by decide +kernel
theorem dX4_following_69 : decode cX4_following 69 = .ok (.istore 4, 2) := by decide +kernel
theorem dX4_following_71 : decode cX4_following 71 = .ok (.iload_n 2, 1) := by decide +kernel
theorem dX4_following_72 : decode cX4_following 72 = .ok (.iconst 1, 1) := by decide +kernel
theorem dX4_following_73 : decode cX4_following 73 = .ok (.iadd, 1) := by decide +kernel
theorem dX4_following_74 : decode cX4_following 74 = .ok (.istore 5, 2) := by decide +kernel
theorem dX4_following_76 : decode cX4_following 76 = .ok (.iload_n 1, 1) := by decide +kernel
theorem dX4_following_77 : decode cX4_following 77 = .ok (.iconst 1, 1) := by decide +kernel
theorem dX4_following_78 : decode cX4_following 78 = .ok (.isub, 1) := by decide +kernel
theorem dX4_following_79 : decode cX4_following 79 = .ok (.istore 6, 2) := by decide +kernel
theorem dX4_following_81 : decode cX4_following 81 = .ok (.iload 5, 2) := by decide +kernel
theorem dX4_following_83 : decode cX4_following 83 = .ok (.iload 6, 2) := by decide +kernel
theorem dX4_following_85 : decode cX4_following 85 = .ok (.if_icmp .ge 23, 3) := by decide +kernel
theorem dX4_following_88 : decode cX4_following 88 = .ok (.iload 4, 2) := by decide +kernel
theorem dX4_following_90 : decode cX4_following 90 = .ok (.iload 5, 2) := by decide +kernel
theorem dX4_following_92 : decode cX4_following 92 = .ok (.iload 6, 2) := by decide +kernel
theorem dX4_following_94 : decode cX4_following 94 = .ok (.invokestatic 15, 3) := by decide +kernel
theorem dX4_following_97 : decode cX4_following 97 = .ok (.istore 4, 2) := by decide +kernel
theorem dX4_following_99 : decode cX4_following 99 = .ok (.iinc 5 1, 3) := by decide +kernel
theorem dX4_following_102 : decode cX4_following 102 = .ok (.iinc 6 (-1), 3) := by decide +kernel
theorem dX4_following_105 : decode cX4_following 105 = .ok (.goto (-24), 3) := by decide +kernel
theorem dX4_following_108 : decode cX4_following 108 = .ok (.iload 4, 2) := by decide +kernel
theorem dX4_following_110 : decode cX4_following 110 = .ok (.ireturn, 1) := by decide +kernel
theorem dX4_rank_0 : decode cX4_rank 0 = .ok (.iconst 0, 1) := by decide +kernel
theorem dX4_rank_1 : decode cX4_rank 1 = .ok (.istore_n 2, 1) := by decide +kernel
theorem dX4_rank_2 : decode cX4_rank 2 = .ok (.iconst 0, 1) := by decide +kernel
theorem dX4_rank_3 : decode cX4_rank 3 = .ok (.istore_n 3, 1) := by decide +kernel
theorem dX4_rank_4 : decode cX4_rank 4 = .ok (.iload_n 3, 1) := by decide +kernel
theorem dX4_rank_5 : decode cX4_rank 5 = .ok (.iload_n 1, 1) := by decide +kernel
theorem dX4_rank_6 : decode cX4_rank 6 = .ok (.if_icmp .ge 49, 3) := by decide +kernel
theorem dX4_rank_9 : decode cX4_rank 9 = .ok (.iload_n 2, 1) := by decide +kernel
theorem dX4_rank_10 : decode cX4_rank 10 = .ok (.iload_n 1, 1) := by decide +kernel
theorem dX4_rank_11 : decode cX4_rank 11 = .ok (.iload_n 3, 1) := by decide +kernel
theorem dX4_rank_12 : decode cX4_rank 12 = .ok (.isub, 1) := by decide +kernel
theorem dX4_rank_13 : decode cX4_rank 13 = .ok (.imul, 1) := by decide +kernel
theorem dX4_rank_14 : decode cX4_rank 14 = .ok (.istore_n 2, 1) := by decide +kernel
theorem dX4_rank_15 : decode cX4_rank 15 = .ok (.iload_n 3, 1) := by decide +kernel
theorem dX4_rank_16 : decode cX4_rank 16 = .ok (.iconst 1, 1) := by decide +kernel
theorem dX4_rank_17 : decode cX4_rank 17 = .ok (.iadd, 1) := by decide +kernel
theorem dX4_rank_18 : decode cX4_rank 18 = .ok (.istore 4, 2) := by decide +kernel
theorem dX4_rank_20 : decode cX4_rank 20 = .ok (.iload 4, 2) := by decide +kernel
theorem dX4_rank_22 : decode cX4_rank 22 = .ok (.iload_n 1, 1) := by decide +kernel
theorem dX4_rank_23 : decode cX4_rank 23 = .ok (.if_icmp .ge 26, 3) := by decide +kernel
theorem dX4_rank_26 : decode cX4_rank 26 = .ok (.iload_n 0, 1) := by decide +kernel
theorem dX4_rank_27 : decode cX4_rank 27 = .ok (.iload 4, 2) := by decide +kernel
theorem dX4_rank_29 : decode cX4_rank 29 = .ok (.invokestatic 9, 3) := by decide +kernel
theorem dX4_rank_32 : decode cX4_rank 32 = .ok (.iload_n 0, 1) := by decide +kernel
theorem dX4_rank_33 : decode cX4_rank 33 = .ok (.iload_n 3, 1) := by decide +kernel
theorem dX4_rank_34 : decode cX4_rank 34 = .ok (.invokestatic 9, 3) := by decide +kernel
theorem dX4_rank_37 : decode cX4_rank 37 = .ok (.if_icmp .ge 6, 3) := by decide +kernel
theorem dX4_rank_40 : decode cX4_rank 40 = .ok (.iinc 2 1, 3) := by decide +kernel
theorem dX4_rank_43 : decode cX4_rank 43 = .ok (.iinc 4 1, 3) := by decide +kernel
theorem dX4_rank_46 : decode cX4_rank 46 = .ok (.goto (-26), 3) := by decide +kernel
theorem dX4_rank_49 : decode cX4_rank 49 = .ok (.iinc 3 1, 3) := by decide +kernel
theorem dX4_rank_52 : decode cX4_rank 52 = .ok (.goto (-48), 3) := by decide +kernel
theorem dX4_rank_55 : decode cX4_rank 55 = .ok (.iload_n 2, 1) := by decide +kernel
theorem dX4_rank_56 : decode cX4_rank 56 = .ok (.ireturn, 1) := by decide +kernel
theorem dJ7_fill_53178_0 : decode cJ7_fill_53178 0 = .ok (.iconst 0, 1) := by decide +kernel
theorem dJ7_fill_53178_1 : decode cJ7_fill_53178 1 = .ok (.istore_n 2, 1) := by decide +kernel
theorem dJ7_fill_53178_2 : decode cJ7_fill_53178 2 = .ok (.aload_n 0, 1) := by decide +kernel
theorem dJ7_fill_53178_3 : decode cJ7_fill_53178 3 = .ok (.arraylength, 1) := by decide +kernel
theorem dJ7_fill_53178_4 : decode cJ7_fill_53178 4 = .ok (.istore_n 3, 1) := by decide +kernel
theorem dJ7_fill_53178_5 : decode cJ7_fill_53178 5 = .ok (.iload_n 2, 1) := by decide +kernel
theorem dJ7_fill_53178_6 : decode cJ7_fill_53178 6 = .ok (.iload_n 3, 1) := by decide +kernel
theorem dJ7_fill_53178_7 : decode cJ7_fill_53178 7 = .ok (.if_icmp .ge 13, 3) := by decide +kernel
theorem dJ7_fill_53178_10 : decode cJ7_fill_53178 10 = .ok (.aload_n 0, 1) := by decide +kernel
theorem dJ7_fill_53178_11 : decode cJ7_fill_53178 11 = .ok (.iload_n 2, 1) := by decide +kernel
theorem dJ7_fill_53178_12 : decode cJ7_fill_53178 12 = .ok (.iload_n 1, 1) := by decide +kernel
theorem dJ7_fill_53178_13 : decode cJ7_fill_53178 13 = .ok (.iastore, 1) := by decide +kernel
theorem dJ7_fill_53178_14 : decode cJ7_fill_53178 14 = .ok (.iinc 2 1, 3) := by decide +kernel
theorem dJ7_fill_53178_17 : decode cJ7_fill_53178 17 = .ok (.goto (-12), 3) := by decide +kernel
theorem dJ7_fill_53178_20 : decode cJ7_fill_53178 20 = .ok (.return_, 1) := by decide +kernel
