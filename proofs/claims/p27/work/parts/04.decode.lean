theorem dX0_init_0 : decode cX0_init 0 = .ok (.aload_n 0, 1) := by decide +kernel
theorem dX0_init_1 : decode cX0_init 1 = .ok (.invokespecial 3, 3) := by decide +kernel
theorem dX0_init_4 : decode cX0_init 4 = .ok (.aload_n 0, 1) := by decide +kernel
theorem dX0_init_5 : decode cX0_init 5 = .ok (.iconst 4, 1) := by decide +kernel
theorem dX0_init_6 : decode cX0_init 6 = .ok (.newarray .int, 2) := by decide +kernel
theorem dX0_init_8 : decode cX0_init 8 = .ok (.putfield 9, 3) := by decide +kernel
theorem dX0_init_11 : decode cX0_init 11 = .ok (.aload_n 0, 1) := by decide +kernel
theorem dX0_init_12 : decode cX0_init 12 = .ok (.iconst (-1), 1) := by decide +kernel
theorem dX0_init_13 : decode cX0_init 13 = .ok (.putfield 15, 3) := by decide +kernel
theorem dX0_init_16 : decode cX0_init 16 = .ok (.aload_n 0, 1) := by decide +kernel
theorem dX0_init_17 : decode cX0_init 17 = .ok (.iconst (-1), 1) := by decide +kernel
theorem dX0_init_18 : decode cX0_init 18 = .ok (.putfield 19, 3) := by decide +kernel
theorem dX0_init_21 : decode cX0_init 21 = .ok (.aload_n 0, 1) := by decide +kernel
theorem dX0_init_22 : decode cX0_init 22 = .ok (.iconst (-1), 1) := by decide +kernel
theorem dX0_init_23 : decode cX0_init 23 = .ok (.putfield 22, 3) := by decide +kernel
theorem dX0_init_26 : decode cX0_init 26 = .ok (.aload_n 0, 1) := by decide +kernel
theorem dX0_init_27 : decode cX0_init 27 = .ok (.iconst (-1), 1) := by decide +kernel
theorem dX0_init_28 : decode cX0_init 28 = .ok (.putfield 25, 3) := by decide +kernel
theorem dX0_init_31 : decode cX0_init 31 = .ok (.return_, 1) := by decide +kernel
theorem dX0_reset_0 : decode cX0_reset 0 = .ok (.aload_n 0, 1) := by decide +kernel
theorem dX0_reset_1 : decode cX0_reset 1 = .ok (.iload_n 1, 1) := by decide +kernel
theorem dX0_reset_2 : decode cX0_reset 2 = .ok (.putfield 28, 3) := by decide +kernel
theorem dX0_reset_5 : decode cX0_reset 5 = .ok (.aload_n 0, 1) := by decide +kernel
theorem dX0_reset_6 : decode cX0_reset 6 = .ok (.iload_n 2, 1) := by decide +kernel
theorem dX0_reset_7 : decode cX0_reset 7 = .ok (.putfield 31, 3) := by decide +kernel
theorem dX0_reset_10 : decode cX0_reset 10 = .ok (.aload_n 0, 1) := by decide +kernel
theorem dX0_reset_11 : decode cX0_reset 11 = .ok (.iload_n 3, 1) := by decide +kernel
theorem dX0_reset_12 : decode cX0_reset 12 = .ok (.putfield 34, 3) := by decide +kernel
theorem dX0_reset_15 : decode cX0_reset 15 = .ok (.aload_n 0, 1) := by decide +kernel
theorem dX0_reset_16 : decode cX0_reset 16 = .ok (.iload_n 3, 1) := by decide +kernel
theorem dX0_reset_17 : decode cX0_reset 17 = .ok (.putfield 37, 3) := by decide +kernel
theorem dX0_reset_20 : decode cX0_reset 20 = .ok (.aload_n 0, 1) := by decide +kernel
theorem dX0_reset_21 : decode cX0_reset 21 = .ok (.iload 4, 2) := by decide +kernel
theorem dX0_reset_23 : decode cX0_reset 23 = .ok (.putfield 40, 3) := by decide +kernel
theorem dX0_reset_26 : decode cX0_reset 26 = .ok (.aload_n 0, 1) := by decide +kernel
theorem dX0_reset_27 : decode cX0_reset 27 = .ok (.iload_n 1, 1) := by decide +kernel
theorem dX0_reset_28 : decode cX0_reset 28 = .ok (.ifCond .ne 7, 3) := by decide +kernel
theorem dX0_reset_31 : decode cX0_reset 31 = .ok (.iconst 0, 1) := by decide +kernel
theorem dX0_reset_32 : decode cX0_reset 32 = .ok (.goto 5, 3) := by decide +kernel
theorem dX0_reset_35 : decode cX0_reset 35 = .ok (.bipush 9, 2) := by decide +kernel
theorem dX0_reset_37 : decode cX0_reset 37 = .ok (.putfield 43, 3) := by decide +kernel
theorem dX0_reset_40 : decode cX0_reset 40 = .ok (.iconst 0, 1) := by decide +kernel
theorem dX0_reset_41 : decode cX0_reset 41 = .ok (.istore 5, 2) := by decide +kernel
theorem dX0_reset_43 : decode cX0_reset 43 = .ok (.iload 5, 2) := by decide +kernel
theorem dX0_reset_45 : decode cX0_reset 45 = .ok (.aload_n 0, 1) := by decide +kernel
theorem dX0_reset_46 : decode cX0_reset 46 = .ok (.getfield 9, 3) := by decide +kernel
theorem dX0_reset_49 : decode cX0_reset 49 = .ok (.arraylength, 1) := by decide +kernel
theorem dX0_reset_50 : decode cX0_reset 50 = .ok (.if_icmp .ge 17, 3) := by decide +kernel
theorem dX0_reset_53 : decode cX0_reset 53 = .ok (.aload_n 0, 1) := by decide +kernel
theorem dX0_reset_54 : decode cX0_reset 54 = .ok (.getfield 9, 3) := by decide +kernel
theorem dX0_reset_57 : decode cX0_reset 57 = .ok (.iload 5, 2) := by decide +kernel
theorem dX0_reset_59 : decode cX0_reset 59 = .ok (.iconst 0, 1) := by decide +kernel
theorem dX0_reset_60 : decode cX0_reset 60 = .ok (.iastore, 1) := by decide +kernel
theorem dX0_reset_61 : decode cX0_reset 61 = .ok (.iinc 5 1, 3) := by decide +kernel
theorem dX0_reset_64 : decode cX0_reset 64 = .ok (.goto (-21), 3) := by decide +kernel
theorem dX0_reset_67 : decode cX0_reset 67 = .ok (.aload_n 0, 1) := by decide +kernel
theorem dX0_reset_68 : decode cX0_reset 68 = .ok (.iconst 0, 1) := by decide +kernel
theorem dX0_reset_69 : decode cX0_reset 69 = .ok (.putfield 46, 3) := by decide +kernel
theorem dX0_reset_72 : decode cX0_reset 72 = .ok (.aload_n 0, 1) := by decide +kernel
theorem dX0_reset_73 : decode cX0_reset 73 = .ok (.invokevirtual 50, 3) := by decide +kernel
theorem dX0_reset_76 : decode cX0_reset 76 = .ok (.aload_n 0, 1) := by decide +kernel
theorem dX0_reset_77 : decode cX0_reset 77 = .ok (.iconst 0, 1) := by decide +kernel
theorem dX0_reset_78 : decode cX0_reset 78 = .ok (.putfield 53, 3) := by decide +kernel
theorem dX0_reset_81 : decode cX0_reset 81 = .ok (.aload_n 0, 1) := by decide +kernel
theorem dX0_reset_82 : decode cX0_reset 82 = .ok (.iconst 0, 1) := by decide +kernel
theorem dX0_reset_83 : decode cX0_reset 83 = .ok (.putfield 56, 3) := by decide +kernel
theorem dX0_reset_86 : decode cX0_reset 86 = .ok (.return_, 1) := by decide +kernel
theorem dX0_copyFrom_0 : decode cX0_copyFrom 0 = .ok (.aload_n 0, 1) := by decide +kernel
theorem dX0_copyFrom_1 : decode cX0_copyFrom 1 = .ok (.aload_n 1, 1) := by decide +kernel
theorem dX0_copyFrom_2 : decode cX0_copyFrom 2 = .ok (.getfield 28, 3) := by decide +kernel
theorem dX0_copyFrom_5 : decode cX0_copyFrom 5 = .ok (.putfield 28, 3) := by decide +kernel
theorem dX0_copyFrom_8 : decode cX0_copyFrom 8 = .ok (.aload_n 0, 1) := by decide +kernel
theorem dX0_copyFrom_9 : decode cX0_copyFrom 9 = .ok (.aload_n 1, 1) := by decide +kernel
theorem dX0_copyFrom_10 : decode cX0_copyFrom 10 = .ok (.getfield 31, 3) := by decide +kernel
theorem dX0_copyFrom_13 : decode cX0_copyFrom 13 = .ok (.putfield 31, 3) := by decide +kernel
theorem dX0_copyFrom_16 : decode cX0_copyFrom 16 = .ok (.aload_n 0, 1) := by decide +kernel
theorem dX0_copyFrom_17 : decode cX0_copyFrom 17 = .ok (.aload_n 1, 1) := by decide +kernel
theorem dX0_copyFrom_18 : decode cX0_copyFrom 18 = .ok (.getfield 34, 3) := by decide +kernel
theorem dX0_copyFrom_21 : decode cX0_copyFrom 21 = .ok (.putfield 34, 3) := by decide +kernel
theorem dX0_copyFrom_24 : decode cX0_copyFrom 24 = .ok (.aload_n 0, 1) := by decide +kernel
theorem dX0_copyFrom_25 : decode cX0_copyFrom 25 = .ok (.aload_n 1, 1) := by decide +kernel
theorem dX0_copyFrom_26 : decode cX0_copyFrom 26 = .ok (.getfield 37, 3) := by decide +kernel
theorem dX0_copyFrom_29 : decode cX0_copyFrom 29 = .ok (.putfield 37, 3) := by decide +kernel
theorem dX0_copyFrom_32 : decode cX0_copyFrom 32 = .ok (.aload_n 0, 1) := by decide +kernel
theorem dX0_copyFrom_33 : decode cX0_copyFrom 33 = .ok (.aload_n 1, 1) := by decide +kernel
theorem dX0_copyFrom_34 : decode cX0_copyFrom 34 = .ok (.getfield 40, 3) := by decide +kernel
theorem dX0_copyFrom_37 : decode cX0_copyFrom 37 = .ok (.putfield 40, 3) := by decide +kernel
theorem dX0_copyFrom_40 : decode cX0_copyFrom 40 = .ok (.aload_n 0, 1) := by decide +kernel
theorem dX0_copyFrom_41 : decode cX0_copyFrom 41 = .ok (.aload_n 1, 1) := by decide +kernel
theorem dX0_copyFrom_42 : decode cX0_copyFrom 42 = .ok (.getfield 43, 3) := by decide +kernel
theorem dX0_copyFrom_45 : decode cX0_copyFrom 45 = .ok (.putfield 43, 3) := by decide +kernel
theorem dX0_copyFrom_48 : decode cX0_copyFrom 48 = .ok (.aload_n 1, 1) := by decide +kernel
theorem dX0_copyFrom_49 : decode cX0_copyFrom 49 = .ok (.getfield 9, 3) := by decide +kernel
theorem dX0_copyFrom_52 : decode cX0_copyFrom 52 = .ok (.iconst 0, 1) := by decide +kernel
theorem dX0_copyFrom_53 : decode cX0_copyFrom 53 = .ok (.aload_n 0, 1) := by decide +kernel
theorem dX0_copyFrom_54 : decode cX0_copyFrom 54 = .ok (.getfield 9, 3) := by decide +kernel
theorem dX0_copyFrom_57 : decode cX0_copyFrom 57 = .ok (.iconst 0, 1) := by decide +kernel
theorem dX0_copyFrom_58 : decode cX0_copyFrom 58 = .ok (.iconst 4, 1) := by decide +kernel
theorem dX0_copyFrom_59 : decode cX0_copyFrom 59 = .ok (.invokestatic 59, 3) := by decide +kernel
theorem dX0_copyFrom_62 : decode cX0_copyFrom 62 = .ok (.aload_n 0, 1) := by decide +kernel
theorem dX0_copyFrom_63 : decode cX0_copyFrom 63 = .ok (.aload_n 1, 1) := by decide +kernel
theorem dX0_copyFrom_64 : decode cX0_copyFrom 64 = .ok (.getfield 46, 3) := by decide +kernel
theorem dX0_copyFrom_67 : decode cX0_copyFrom 67 = .ok (.putfield 46, 3) := by decide +kernel
theorem dX0_copyFrom_70 : decode cX0_copyFrom 70 = .ok (.aload_n 0, 1) := by decide +kernel
theorem dX0_copyFrom_71 : decode cX0_copyFrom 71 = .ok (.aload_n 1, 1) := by decide +kernel
theorem dX0_copyFrom_72 : decode cX0_copyFrom 72 = .ok (.getfield 15, 3) := by decide +kernel
theorem dX0_copyFrom_75 : decode cX0_copyFrom 75 = .ok (.putfield 15, 3) := by decide +kernel
theorem dX0_copyFrom_78 : decode cX0_copyFrom 78 = .ok (.aload_n 0, 1) := by decide +kernel
theorem dX0_copyFrom_79 : decode cX0_copyFrom 79 = .ok (.aload_n 1, 1) := by decide +kernel
theorem dX0_copyFrom_80 : decode cX0_copyFrom 80 = .ok (.getfield 19, 3) := by decide +kernel
theorem dX0_copyFrom_83 : decode cX0_copyFrom 83 = .ok (.putfield 19, 3) := by decide +kernel
theorem dX0_copyFrom_86 : decode cX0_copyFrom 86 = .ok (.aload_n 0, 1) := by decide +kernel
theorem dX0_copyFrom_87 : decode cX0_copyFrom 87 = .ok (.aload_n 1, 1) := by decide +kernel
theorem dX0_copyFrom_88 : decode cX0_copyFrom 88 = .ok (.getfield 22, 3) := by decide +kernel
theorem dX0_copyFrom_91 : decode cX0_copyFrom 91 = .ok (.putfield 22, 3) := by decide +kernel
theorem dX0_copyFrom_94 : decode cX0_copyFrom 94 = .ok (.aload_n 0, 1) := by decide +kernel
theorem dX0_copyFrom_95 : decode cX0_copyFrom 95 = .ok (.aload_n 1, 1) := by decide +kernel
theorem dX0_copyFrom_96 : decode cX0_copyFrom 96 = .ok (.getfield 25, 3) := by decide +kernel
theorem dX0_copyFrom_99 : decode cX0_copyFrom 99 = .ok (.putfield 25, 3) := by decide +kernel
theorem dX0_copyFrom_102 : decode cX0_copyFrom 102 = .ok (.aload_n 0, 1) := by decide +kernel
theorem dX0_copyFrom_103 : decode cX0_copyFrom 103 = .ok (.aload_n 1, 1) := by decide +kernel
theorem dX0_copyFrom_104 : decode cX0_copyFrom 104 = .ok (.getfield 53, 3) := by decide +kernel
theorem dX0_copyFrom_107 : decode cX0_copyFrom 107 = .ok (.putfield 53, 3) := by decide +kernel
theorem dX0_copyFrom_110 : decode cX0_copyFrom 110 = .ok (.aload_n 0, 1) := by decide +kernel
theorem dX0_copyFrom_111 : decode cX0_copyFrom 111 = .ok (.aload_n 1, 1) := by decide +kernel
theorem dX0_copyFrom_112 : decode cX0_copyFrom 112 = .ok (.getfield 56, 3) := by decide +kernel
theorem dX0_copyFrom_115 : decode cX0_copyFrom 115 = .ok (.putfield 56, 3) := by decide +kernel
theorem dX0_copyFrom_118 : decode cX0_copyFrom 118 = .ok (.return_, 1) := by decide +kernel
theorem dX0_hasFallen_0 : decode cX0_hasFallen 0 = .ok (.aload_n 0, 1) := by decide +kernel
theorem dX0_hasFallen_1 : decode cX0_hasFallen 1 = .ok (.getfield 34, 3) := by decide +kernel
theorem dX0_hasFallen_4 : decode cX0_hasFallen 4 = .ok (.ifCond .gt 7, 3) := by decide +kernel
theorem dX0_hasFallen_7 : decode cX0_hasFallen 7 = .ok (.iconst 1, 1) := by decide +kernel
theorem dX0_hasFallen_8 : decode cX0_hasFallen 8 = .ok (.goto 4, 3) := by decide +kernel
theorem dX0_hasFallen_11 : decode cX0_hasFallen 11 = .ok (.iconst 0, 1) := by decide +kernel
theorem dX0_hasFallen_12 : decode cX0_hasFallen 12 = .ok (.ireturn, 1) := by decide +kernel
theorem dX0_hasReadied_0 : decode cX0_hasReadied 0 = .ok (.aload_n 0, 1) := by decide +kernel
theorem dX0_hasReadied_1 : decode cX0_hasReadied 1 = .ok (.getfield 15, 3) := by decide +kernel
theorem dX0_hasReadied_4 : decode cX0_hasReadied 4 = .ok (.iconst (-1), 1) := by decide +kernel
theorem dX0_hasReadied_5 : decode cX0_hasReadied 5 = .ok (.if_icmp .eq 7, 3) := by decide +kernel
theorem dX0_hasReadied_8 : decode cX0_hasReadied 8 = .ok (.iconst 1, 1) := by decide +kernel
theorem dX0_hasReadied_9 : decode cX0_hasReadied 9 = .ok (.goto 4, 3) := by decide +kernel
theorem dX0_hasReadied_12 : decode cX0_hasReadied 12 = .ok (.iconst 0, 1) := by decide +kernel
theorem dX0_hasReadied_13 : decode cX0_hasReadied 13 = .ok (.ireturn, 1) := by decide +kernel
theorem dX0_roundsOf_0 : decode cX0_roundsOf 0 = .ok (.iload_n 1, 1) := by decide +kernel
theorem dX0_roundsOf_1 : decode cX0_roundsOf 1 = .ok (.ifCond .lt 21, 3) := by decide +kernel
theorem dX0_roundsOf_4 : decode cX0_roundsOf 4 = .ok (.iload_n 1, 1) := by decide +kernel
theorem dX0_roundsOf_5 : decode cX0_roundsOf 5 = .ok (.aload_n 0, 1) := by decide +kernel
theorem dX0_roundsOf_6 : decode cX0_roundsOf 6 = .ok (.getfield 9, 3) := by decide +kernel
theorem dX0_roundsOf_9 : decode cX0_roundsOf 9 = .ok (.arraylength, 1) := by decide +kernel
theorem dX0_roundsOf_10 : decode cX0_roundsOf 10 = .ok (.if_icmp .ge 12, 3) := by decide +kernel
theorem dX0_roundsOf_13 : decode cX0_roundsOf 13 = .ok (.aload_n 0, 1) := by decide +kernel
theorem dX0_roundsOf_14 : decode cX0_roundsOf 14 = .ok (.getfield 9, 3) := by decide +kernel
theorem dX0_roundsOf_17 : decode cX0_roundsOf 17 = .ok (.iload_n 1, 1) := by decide +kernel
theorem dX0_roundsOf_18 : decode cX0_roundsOf 18 = .ok (.iaload, 1) := by decide +kernel
theorem dX0_roundsOf_19 : decode cX0_roundsOf 19 = .ok (.goto 4, 3) := by decide +kernel
theorem dX0_roundsOf_22 : decode cX0_roundsOf 22 = .ok (.iconst 0, 1) := by decide +kernel
theorem dX0_roundsOf_23 : decode cX0_roundsOf 23 = .ok (.ireturn, 1) := by decide +kernel
theorem dX0_setRounds_0 : decode cX0_setRounds 0 = .ok (.iload_n 1, 1) := by decide +kernel
theorem dX0_setRounds_1 : decode cX0_setRounds 1 = .ok (.ifCond .lt 19, 3) := by decide +kernel
theorem dX0_setRounds_4 : decode cX0_setRounds 4 = .ok (.iload_n 1, 1) := by decide +kernel
theorem dX0_setRounds_5 : decode cX0_setRounds 5 = .ok (.aload_n 0, 1) := by decide +kernel
theorem dX0_setRounds_6 : decode cX0_setRounds 6 = .ok (.getfield 9, 3) := by decide +kernel
theorem dX0_setRounds_9 : decode cX0_setRounds 9 = .ok (.arraylength, 1) := by decide +kernel
theorem dX0_setRounds_10 : decode cX0_setRounds 10 = .ok (.if_icmp .ge 10, 3) := by decide +kernel
theorem dX0_setRounds_13 : decode cX0_setRounds 13 = .ok (.aload_n 0, 1) := by decide +kernel
theorem dX0_setRounds_14 : decode cX0_setRounds 14 = .ok (.getfield 9, 3) := by decide +kernel
theorem dX0_setRounds_17 : decode cX0_setRounds 17 = .ok (.iload_n 1, 1) := by decide +kernel
theorem dX0_setRounds_18 : decode cX0_setRounds 18 = .ok (.iload_n 2, 1) := by decide +kernel
theorem dX0_setRounds_19 : decode cX0_setRounds 19 = .ok (.iastore, 1) := by decide +kernel
theorem dX0_setRounds_20 : decode cX0_setRounds 20 = .ok (.return_, 1) := by decide +kernel
theorem dX0_lengthen_0 : decode cX0_lengthen 0 = .ok (.aload_n 0, 1) := by decide +kernel
theorem dX0_lengthen_1 : decode cX0_lengthen 1 = .ok (.iload_n 1, 1) := by decide +kernel
theorem dX0_lengthen_2 : decode cX0_lengthen 2 = .ok (.aload_n 0, 1) := by decide +kernel
theorem dX0_lengthen_3 : decode cX0_lengthen 3 = .ok (.iload_n 1, 1) := by decide +kernel
theorem dX0_lengthen_4 : decode cX0_lengthen 4 = .ok (.invokevirtual 65, 3) := by decide +kernel
theorem dX0_lengthen_7 : decode cX0_lengthen 7 = .ok (.iload_n 2, 1) := by decide +kernel
theorem dX0_lengthen_8 : decode cX0_lengthen 8 = .ok (.invokestatic 69, 3) := by decide +kernel
theorem dX0_lengthen_11 : decode cX0_lengthen 11 = .ok (.invokevirtual 75, 3) := by decide +kernel
theorem dX0_lengthen_14 : decode cX0_lengthen 14 = .ok (.aload_n 0, 1) := by decide +kernel
theorem dX0_lengthen_15 : decode cX0_lengthen 15 = .ok (.iload_n 1, 1) := by decide +kernel
theorem dX0_lengthen_16 : decode cX0_lengthen 16 = .ok (.invokevirtual 65, 3) := by decide +kernel
theorem dX0_lengthen_19 : decode cX0_lengthen 19 = .ok (.ireturn, 1) := by decide +kernel
theorem dX0_passRound_0 : decode cX0_passRound 0 = .ok (.iconst 0, 1) := by decide +kernel
theorem dX0_passRound_1 : decode cX0_passRound 1 = .ok (.istore_n 1, 1) := by decide +kernel
theorem dX0_passRound_2 : decode cX0_passRound 2 = .ok (.iload_n 1, 1) := by decide +kernel
theorem dX0_passRound_3 : decode cX0_passRound 3 = .ok (.aload_n 0, 1) := by decide +kernel
theorem dX0_passRound_4 : decode cX0_passRound 4 = .ok (.getfield 9, 3) := by decide +kernel
theorem dX0_passRound_7 : decode cX0_passRound 7 = .ok (.arraylength, 1) := by decide +kernel
theorem dX0_passRound_8 : decode cX0_passRound 8 = .ok (.if_icmp .ge 28, 3) := by decide +kernel
theorem dX0_passRound_11 : decode cX0_passRound 11 = .ok (.aload_n 0, 1) := by decide +kernel
theorem dX0_passRound_12 : decode cX0_passRound 12 = .ok (.getfield 9, 3) := by decide +kernel
theorem dX0_passRound_15 : decode cX0_passRound 15 = .ok (.iload_n 1, 1) := by decide +kernel
theorem dX0_passRound_16 : decode cX0_passRound 16 = .ok (.iaload, 1) := by decide +kernel
theorem dX0_passRound_17 : decode cX0_passRound 17 = .ok (.ifCond .le 13, 3) := by decide +kernel
theorem dX0_passRound_20 : decode cX0_passRound 20 = .ok (.aload_n 0, 1) := by decide +kernel
theorem dX0_passRound_21 : decode cX0_passRound 21 = .ok (.getfield 9, 3) := by decide +kernel
theorem dX0_passRound_24 : decode cX0_passRound 24 = .ok (.iload_n 1, 1) := by decide +kernel
theorem dX0_passRound_25 : decode cX0_passRound 25 = .ok (.dup2, 1) := by decide +kernel
theorem dX0_passRound_26 : decode cX0_passRound 26 = .ok (.iaload, 1) := by decide +kernel
theorem dX0_passRound_27 : decode cX0_passRound 27 = .ok (.iconst 1, 1) := by decide +kernel
theorem dX0_passRound_28 : decode cX0_passRound 28 = .ok (.isub, 1) := by decide +kernel
theorem dX0_passRound_29 : decode cX0_passRound 29 = .ok (.iastore, 1) := by decide +kernel
theorem dX0_passRound_30 : decode cX0_passRound 30 = .ok (.iinc 1 1, 3) := by decide +kernel
theorem dX0_passRound_33 : decode cX0_passRound 33 = .ok (.goto (-31), 3) := by decide +kernel
theorem dX0_passRound_36 : decode cX0_passRound 36 = .ok (.return_, 1) := by decide +kernel
theorem dX0_forgetReadied_0 : decode cX0_forgetReadied 0 = .ok (.aload_n 0, 1) := by decide +kernel
theorem dX0_forgetReadied_1 : decode cX0_forgetReadied 1 = .ok (.iconst (-1), 1) := by decide +kernel
theorem dX0_forgetReadied_2 : decode cX0_forgetReadied 2 = .ok (.putfield 15, 3) := by decide +kernel
theorem dX0_forgetReadied_5 : decode cX0_forgetReadied 5 = .ok (.aload_n 0, 1) := by decide +kernel
theorem dX0_forgetReadied_6 : decode cX0_forgetReadied 6 = .ok (.iconst (-1), 1) := by decide +kernel
theorem dX0_forgetReadied_7 : decode cX0_forgetReadied 7 = .ok (.putfield 19, 3) := by decide +kernel
theorem dX0_forgetReadied_10 : decode cX0_forgetReadied 10 = .ok (.aload_n 0, 1) := by decide +kernel
theorem dX0_forgetReadied_11 : decode cX0_forgetReadied 11 = .ok (.iconst (-1), 1) := by decide +kernel
theorem dX0_forgetReadied_12 : decode cX0_forgetReadied 12 = .ok (.putfield 22, 3) := by decide +kernel
theorem dX0_forgetReadied_15 : decode cX0_forgetReadied 15 = .ok (.aload_n 0, 1) := by decide +kernel
theorem dX0_forgetReadied_16 : decode cX0_forgetReadied 16 = .ok (.iconst (-1), 1) := by decide +kernel
theorem dX0_forgetReadied_17 : decode cX0_forgetReadied 17 = .ok (.putfield 25, 3) := by decide +kernel
theorem dX0_forgetReadied_20 : decode cX0_forgetReadied 20 = .ok (.return_, 1) := by decide +kernel
theorem dX0_ofReadied_0 : decode cX0_ofReadied 0 = .ok (.iload_n 1, 1) := by decide +kernel
theorem dX0_ofReadied_1 : decode cX0_ofReadied 1 = .ok (.tableswitch 42 0 2 #[27, 32, 37], 27) := by decide +kernel
theorem dX0_ofReadied_28 : decode cX0_ofReadied 28 = .ok (.aload_n 0, 1) := by decide +kernel
theorem dX0_ofReadied_29 : decode cX0_ofReadied 29 = .ok (.getfield 15, 3) := by decide +kernel
theorem dX0_ofReadied_32 : decode cX0_ofReadied 32 = .ok (.ireturn, 1) := by decide +kernel
theorem dX0_ofReadied_33 : decode cX0_ofReadied 33 = .ok (.aload_n 0, 1) := by decide +kernel
theorem dX0_ofReadied_34 : decode cX0_ofReadied 34 = .ok (.getfield 19, 3) := by decide +kernel
theorem dX0_ofReadied_37 : decode cX0_ofReadied 37 = .ok (.ireturn, 1) := by decide +kernel
theorem dX0_ofReadied_38 : decode cX0_ofReadied 38 = .ok (.aload_n 0, 1) := by decide +kernel
theorem dX0_ofReadied_39 : decode cX0_ofReadied 39 = .ok (.getfield 22, 3) := by decide +kernel
theorem dX0_ofReadied_42 : decode cX0_ofReadied 42 = .ok (.ireturn, 1) := by decide +kernel
theorem dX0_ofReadied_43 : decode cX0_ofReadied 43 = .ok (.aload_n 0, 1) := by decide +kernel
theorem dX0_ofReadied_44 : decode cX0_ofReadied 44 = .ok (.getfield 25, 3) := by decide +kernel
theorem dX0_ofReadied_47 : decode cX0_ofReadied 47 = .ok (.ireturn, 1) := by decide +kernel
theorem dX0_lossAt_0 : decode cX0_lossAt 0 = .ok (.aload_n 0, 1) := by decide +kernel
theorem dX0_lossAt_1 : decode cX0_lossAt 1 = .ok (.iconst 2, 1) := by decide +kernel
theorem dX0_lossAt_2 : decode cX0_lossAt 2 = .ok (.invokevirtual 65, 3) := by decide +kernel
theorem dX0_lossAt_5 : decode cX0_lossAt 5 = .ok (.ifCond .le 12, 3) := by decide +kernel
theorem dX0_lossAt_8 : decode cX0_lossAt 8 = .ok (.aload_n 0, 1) := by decide +kernel
theorem dX0_lossAt_9 : decode cX0_lossAt 9 = .ok (.getfield 40, 3) := by decide +kernel
theorem dX0_lossAt_12 : decode cX0_lossAt 12 = .ok (.iconst 3, 1) := by decide +kernel
theorem dX0_lossAt_13 : decode cX0_lossAt 13 = .ok (.iadd, 1) := by decide +kernel
theorem dX0_lossAt_14 : decode cX0_lossAt 14 = .ok (.goto 7, 3) := by decide +kernel
theorem dX0_lossAt_17 : decode cX0_lossAt 17 = .ok (.aload_n 0, 1) := by decide +kernel
theorem dX0_lossAt_18 : decode cX0_lossAt 18 = .ok (.getfield 40, 3) := by decide +kernel
theorem dX0_lossAt_21 : decode cX0_lossAt 21 = .ok (.istore_n 2, 1) := by decide +kernel
theorem dX0_lossAt_22 : decode cX0_lossAt 22 = .ok (.aload_n 0, 1) := by decide +kernel
theorem dX0_lossAt_23 : decode cX0_lossAt 23 = .ok (.iconst 1, 1) := by decide +kernel
theorem dX0_lossAt_24 : decode cX0_lossAt 24 = .ok (.invokevirtual 65, 3) := by decide +kernel
theorem dX0_lossAt_27 : decode cX0_lossAt 27 = .ok (.ifCond .le 7, 3) := by decide +kernel
theorem dX0_lossAt_30 : decode cX0_lossAt 30 = .ok (.iload_n 2, 1) := by decide +kernel
theorem dX0_lossAt_31 : decode cX0_lossAt 31 = .ok (.iconst 2, 1) := by decide +kernel
theorem dX0_lossAt_32 : decode cX0_lossAt 32 = .ok (.idiv, 1) := by decide +kernel
theorem dX0_lossAt_33 : decode cX0_lossAt 33 = .ok (.istore_n 2, 1) := by decide +kernel
theorem dX0_lossAt_34 : decode cX0_lossAt 34 = .ok (.iload_n 2, 1) := by decide +kernel
theorem dX0_lossAt_35 : decode cX0_lossAt 35 = .ok (.aload_n 1, 1) := by decide +kernel
theorem dX0_lossAt_36 : decode cX0_lossAt 36 = .ok (.getfield 34, 3) := by decide +kernel
theorem dX0_lossAt_39 : decode cX0_lossAt 39 = .ok (.invokestatic 79, 3) := by decide +kernel
theorem dX0_lossAt_42 : decode cX0_lossAt 42 = .ok (.ireturn, 1) := by decide +kernel
theorem dX0_recover_0 : decode cX0_recover 0 = .ok (.aload_n 0, 1) := by decide +kernel
theorem dX0_recover_1 : decode cX0_recover 1 = .ok (.aload_n 0, 1) := by decide +kernel
theorem dX0_recover_2 : decode cX0_recover 2 = .ok (.getfield 34, 3) := by decide +kernel
theorem dX0_recover_5 : decode cX0_recover 5 = .ok (.iconst 4, 1) := by decide +kernel
theorem dX0_recover_6 : decode cX0_recover 6 = .ok (.iadd, 1) := by decide +kernel
theorem dX0_recover_7 : decode cX0_recover 7 = .ok (.aload_n 0, 1) := by decide +kernel
theorem dX0_recover_8 : decode cX0_recover 8 = .ok (.getfield 37, 3) := by decide +kernel
theorem dX0_recover_11 : decode cX0_recover 11 = .ok (.invokestatic 79, 3) := by decide +kernel
theorem dX0_recover_14 : decode cX0_recover 14 = .ok (.putfield 34, 3) := by decide +kernel
theorem dX0_recover_17 : decode cX0_recover 17 = .ok (.aload_n 0, 1) := by decide +kernel
theorem dX0_recover_18 : decode cX0_recover 18 = .ok (.iconst 3, 1) := by decide +kernel
theorem dX0_recover_19 : decode cX0_recover 19 = .ok (.iconst 0, 1) := by decide +kernel
theorem dX0_recover_20 : decode cX0_recover 20 = .ok (.invokevirtual 75, 3) := by decide +kernel
theorem dX0_recover_23 : decode cX0_recover 23 = .ok (.return_, 1) := by decide +kernel
theorem dX0_bleed_0 : decode cX0_bleed 0 = .ok (.aload_n 0, 1) := by decide +kernel
theorem dX0_bleed_1 : decode cX0_bleed 1 = .ok (.iconst 3, 1) := by decide +kernel
theorem dX0_bleed_2 : decode cX0_bleed 2 = .ok (.invokevirtual 65, 3) := by decide +kernel
theorem dX0_bleed_5 : decode cX0_bleed 5 = .ok (.ifCond .le 17, 3) := by decide +kernel
theorem dX0_bleed_8 : decode cX0_bleed 8 = .ok (.aload_n 0, 1) := by decide +kernel
theorem dX0_bleed_9 : decode cX0_bleed 9 = .ok (.aload_n 0, 1) := by decide +kernel
theorem dX0_bleed_10 : decode cX0_bleed 10 = .ok (.getfield 34, 3) := by decide +kernel
theorem dX0_bleed_13 : decode cX0_bleed 13 = .ok (.iconst 2, 1) := by decide +kernel
theorem dX0_bleed_14 : decode cX0_bleed 14 = .ok (.isub, 1) := by decide +kernel
theorem dX0_bleed_15 : decode cX0_bleed 15 = .ok (.iconst 0, 1) := by decide +kernel
theorem dX0_bleed_16 : decode cX0_bleed 16 = .ok (.invokestatic 69, 3) := by decide +kernel
theorem dX0_bleed_19 : decode cX0_bleed 19 = .ok (.putfield 34, 3) := by decide +kernel
theorem dX0_bleed_22 : decode cX0_bleed 22 = .ok (.return_, 1) := by decide +kernel
theorem dX0_status_0 : decode cX0_status 0 = .ok (.aload_n 0, 1) := by decide +kernel
theorem dX0_status_1 : decode cX0_status 1 = .ok (.invokevirtual 82, 3) := by decide +kernel
theorem dX0_status_4 : decode cX0_status 4 = .ok (.ifCond .eq 5, 3) := by decide +kernel
theorem dX0_status_7 : decode cX0_status 7 = .ok (.iconst 3, 1) := by decide +kernel
theorem dX0_status_8 : decode cX0_status 8 = .ok (.ireturn, 1) := by decide +kernel
theorem dX0_status_9 : decode cX0_status 9 = .ok (.aload_n 0, 1) := by decide +kernel
theorem dX0_status_10 : decode cX0_status 10 = .ok (.getfield 46, 3) := by decide +kernel
theorem dX0_status_13 : decode cX0_status 13 = .ok (.ifCond .eq 5, 3) := by decide +kernel
theorem dX0_status_16 : decode cX0_status 16 = .ok (.iconst 1, 1) := by decide +kernel
theorem dX0_status_17 : decode cX0_status 17 = .ok (.ireturn, 1) := by decide +kernel
theorem dX0_status_18 : decode cX0_status 18 = .ok (.aload_n 0, 1) := by decide +kernel
theorem dX0_status_19 : decode cX0_status 19 = .ok (.invokevirtual 86, 3) := by decide +kernel
theorem dX0_status_22 : decode cX0_status 22 = .ok (.ifCond .eq 7, 3) := by decide +kernel
theorem dX0_status_25 : decode cX0_status 25 = .ok (.iconst 2, 1) := by decide +kernel
theorem dX0_status_26 : decode cX0_status 26 = .ok (.goto 4, 3) := by decide +kernel
theorem dX0_status_29 : decode cX0_status 29 = .ok (.iconst 0, 1) := by decide +kernel
theorem dX0_status_30 : decode cX0_status 30 = .ok (.ireturn, 1) := by decide +kernel
theorem dX1_init_0 : decode cX1_init 0 = .ok (.aload_n 0, 1) := by decide +kernel
theorem dX1_init_1 : decode cX1_init 1 = .ok (.invokespecial 3, 3) := by decide +kernel
theorem dX1_init_4 : decode cX1_init 4 = .ok (.aload_n 0, 1) := by decide +kernel
theorem dX1_init_5 : decode cX1_init 5 = .ok (.bipush 60, 2) := by decide +kernel
theorem dX1_init_7 : decode cX1_init 7 = .ok (.newarray .int, 2) := by decide +kernel
theorem dX1_init_9 : decode cX1_init 9 = .ok (.putfield 9, 3) := by decide +kernel
theorem dX1_init_12 : decode cX1_init 12 = .ok (.aload_n 0, 1) := by decide +kernel
theorem dX1_init_13 : decode cX1_init 13 = .ok (.iconst 0, 1) := by decide +kernel
theorem dX1_init_14 : decode cX1_init 14 = .ok (.putfield 15, 3) := by decide +kernel
theorem dX1_init_17 : decode cX1_init 17 = .ok (.return_, 1) := by decide +kernel
theorem dX2_init_0 : decode cX2_init 0 = .ok (.aload_n 0, 1) := by decide +kernel
theorem dX2_init_1 : decode cX2_init 1 = .ok (.invokespecial 3, 3) := by decide +kernel
theorem dX2_init_4 : decode cX2_init 4 = .ok (.aload_n 0, 1) := by decide +kernel
theorem dX2_init_5 : decode cX2_init 5 = .ok (.bipush 10, 2) := by decide +kernel
theorem dX2_init_7 : decode cX2_init 7 = .ok (.newarray .int, 2) := by decide +kernel
theorem dX2_init_9 : decode cX2_init 9 = .ok (.putfield 9, 3) := by decide +kernel
theorem dX2_init_12 : decode cX2_init 12 = .ok (.aload_n 0, 1) := by decide +kernel
theorem dX2_init_13 : decode cX2_init 13 = .ok (.iconst 0, 1) := by decide +kernel
theorem dX2_init_14 : decode cX2_init 14 = .ok (.putfield 15, 3) := by decide +kernel
theorem dX2_init_17 : decode cX2_init 17 = .ok (.return_, 1) := by decide +kernel
theorem dX2_copyFrom_0 : decode cX2_copyFrom 0 = .ok (.aload_n 1, 1) := by decide +kernel
theorem dX2_copyFrom_1 : decode cX2_copyFrom 1 = .ok (.getfield 9, 3) := by decide +kernel
theorem dX2_copyFrom_4 : decode cX2_copyFrom 4 = .ok (.iconst 0, 1) := by decide +kernel
theorem dX2_copyFrom_5 : decode cX2_copyFrom 5 = .ok (.aload_n 0, 1) := by decide +kernel
theorem dX2_copyFrom_6 : decode cX2_copyFrom 6 = .ok (.getfield 9, 3) := by decide +kernel
theorem dX2_copyFrom_9 : decode cX2_copyFrom 9 = .ok (.iconst 0, 1) := by decide +kernel
theorem dX2_copyFrom_10 : decode cX2_copyFrom 10 = .ok (.bipush 10, 2) := by decide +kernel
theorem dX2_copyFrom_12 : decode cX2_copyFrom 12 = .ok (.invokestatic 19, 3) := by decide +kernel
theorem dX2_copyFrom_15 : decode cX2_copyFrom 15 = .ok (.aload_n 0, 1) := by decide +kernel
theorem dX2_copyFrom_16 : decode cX2_copyFrom 16 = .ok (.aload_n 1, 1) := by decide +kernel
theorem dX2_copyFrom_17 : decode cX2_copyFrom 17 = .ok (.getfield 15, 3) := by decide +kernel
theorem dX2_copyFrom_20 : decode cX2_copyFrom 20 = .ok (.putfield 15, 3) := by decide +kernel
theorem dX2_copyFrom_23 : decode cX2_copyFrom 23 = .ok (.return_, 1) := by decide +kernel
theorem dX2_numberAt_0 : decode cX2_numberAt 0 = .ok (.iload_n 1, 1) := by decide +kernel
theorem dX2_numberAt_1 : decode cX2_numberAt 1 = .ok (.ifCond .lt 29, 3) := by decide +kernel
theorem dX2_numberAt_4 : decode cX2_numberAt 4 = .ok (.iload_n 1, 1) := by decide +kernel
theorem dX2_numberAt_5 : decode cX2_numberAt 5 = .ok (.aload_n 0, 1) := by decide +kernel
theorem dX2_numberAt_6 : decode cX2_numberAt 6 = .ok (.getfield 15, 3) := by decide +kernel
theorem dX2_numberAt_9 : decode cX2_numberAt 9 = .ok (.if_icmp .ge 21, 3) := by decide +kernel
theorem dX2_numberAt_12 : decode cX2_numberAt 12 = .ok (.iload_n 1, 1) := by decide +kernel
theorem dX2_numberAt_13 : decode cX2_numberAt 13 = .ok (.aload_n 0, 1) := by decide +kernel
theorem dX2_numberAt_14 : decode cX2_numberAt 14 = .ok (.getfield 9, 3) := by decide +kernel
theorem dX2_numberAt_17 : decode cX2_numberAt 17 = .ok (.arraylength, 1) := by decide +kernel
theorem dX2_numberAt_18 : decode cX2_numberAt 18 = .ok (.if_icmp .ge 12, 3) := by decide +kernel
theorem dX2_numberAt_21 : decode cX2_numberAt 21 = .ok (.aload_n 0, 1) := by decide +kernel
theorem dX2_numberAt_22 : decode cX2_numberAt 22 = .ok (.getfield 9, 3) := by decide +kernel
theorem dX2_numberAt_25 : decode cX2_numberAt 25 = .ok (.iload_n 1, 1) := by decide +kernel
theorem dX2_numberAt_26 : decode cX2_numberAt 26 = .ok (.iaload, 1) := by decide +kernel
theorem dX2_numberAt_27 : decode cX2_numberAt 27 = .ok (.goto 4, 3) := by decide +kernel
theorem dX2_numberAt_30 : decode cX2_numberAt 30 = .ok (.iconst (-1), 1) := by decide +kernel
theorem dX2_numberAt_31 : decode cX2_numberAt 31 = .ok (.ireturn, 1) := by decide +kernel
theorem dX2_placeOf_0 : decode cX2_placeOf 0 = .ok (.iconst 0, 1) := by decide +kernel
theorem dX2_placeOf_1 : decode cX2_placeOf 1 = .ok (.istore_n 2, 1) := by decide +kernel
theorem dX2_placeOf_2 : decode cX2_placeOf 2 = .ok (.iload_n 2, 1) := by decide +kernel
theorem dX2_placeOf_3 : decode cX2_placeOf 3 = .ok (.aload_n 0, 1) := by decide +kernel
theorem dX2_placeOf_4 : decode cX2_placeOf 4 = .ok (.getfield 15, 3) := by decide +kernel
theorem dX2_placeOf_7 : decode cX2_placeOf 7 = .ok (.if_icmp .ge 20, 3) := by decide +kernel
theorem dX2_placeOf_10 : decode cX2_placeOf 10 = .ok (.aload_n 0, 1) := by decide +kernel
theorem dX2_placeOf_11 : decode cX2_placeOf 11 = .ok (.iload_n 2, 1) := by decide +kernel
theorem dX2_placeOf_12 : decode cX2_placeOf 12 = .ok (.invokevirtual 25, 3) := by decide +kernel
theorem dX2_placeOf_15 : decode cX2_placeOf 15 = .ok (.iload_n 1, 1) := by decide +kernel
theorem dX2_placeOf_16 : decode cX2_placeOf 16 = .ok (.if_icmp .ne 5, 3) := by decide +kernel
theorem dX2_placeOf_19 : decode cX2_placeOf 19 = .ok (.iload_n 2, 1) := by decide +kernel
theorem dX2_placeOf_20 : decode cX2_placeOf 20 = .ok (.ireturn, 1) := by decide +kernel
theorem dX2_placeOf_21 : decode cX2_placeOf 21 = .ok (.iinc 2 1, 3) := by decide +kernel
theorem dX2_placeOf_24 : decode cX2_placeOf 24 = .ok (.goto (-22), 3) := by decide +kernel
theorem dX2_placeOf_27 : decode cX2_placeOf 27 = .ok (.iconst (-1), 1) := by decide +kernel
theorem dX2_placeOf_28 : decode cX2_placeOf 28 = .ok (.ireturn, 1) := by decide +kernel
theorem dX2_insert_0 : decode cX2_insert 0 = .ok (.iload_n 2, 1) := by decide +kernel
theorem dX2_insert_1 : decode cX2_insert 1 = .ok (.ifCond .lt 23, 3) := by decide +kernel
theorem dX2_insert_4 : decode cX2_insert 4 = .ok (.iload_n 2, 1) := by decide +kernel
theorem dX2_insert_5 : decode cX2_insert 5 = .ok (.aload_n 0, 1) := by decide +kernel
theorem dX2_insert_6 : decode cX2_insert 6 = .ok (.getfield 15, 3) := by decide +kernel
theorem dX2_insert_9 : decode cX2_insert 9 = .ok (.if_icmp .gt 15, 3) := by decide +kernel
theorem dX2_insert_12 : decode cX2_insert 12 = .ok (.aload_n 0, 1) := by decide +kernel
theorem dX2_insert_13 : decode cX2_insert 13 = .ok (.getfield 15, 3) := by decide +kernel
theorem dX2_insert_16 : decode cX2_insert 16 = .ok (.aload_n 0, 1) := by decide +kernel
theorem dX2_insert_17 : decode cX2_insert 17 = .ok (.getfield 9, 3) := by decide +kernel
theorem dX2_insert_20 : decode cX2_insert 20 = .ok (.arraylength, 1) := by decide +kernel
theorem dX2_insert_21 : decode cX2_insert 21 = .ok (.if_icmp .lt 4, 3) := by decide +kernel
theorem dX2_insert_24 : decode cX2_insert 24 = .ok (.return_, 1) := by decide +kernel
theorem dX2_insert_25 : decode cX2_insert 25 = .ok (.aload_n 0, 1) := by decide +kernel
theorem dX2_insert_26 : decode cX2_insert 26 = .ok (.getfield 15, 3) := by decide +kernel
theorem dX2_insert_29 : decode cX2_insert 29 = .ok (.istore_n 3, 1) := by decide +kernel
theorem dX2_insert_30 : decode cX2_insert 30 = .ok (.iload_n 3, 1) := by decide +kernel
theorem dX2_insert_31 : decode cX2_insert 31 = .ok (.iload_n 2, 1) := by decide +kernel
theorem dX2_insert_32 : decode cX2_insert 32 = .ok (.if_icmp .le 23, 3) := by decide +kernel
theorem dX2_insert_35 : decode cX2_insert 35 = .ok (.aload_n 0, 1) := by decide +kernel
theorem dX2_insert_36 : decode cX2_insert 36 = .ok (.getfield 9, 3) := by decide +kernel
theorem dX2_insert_39 : decode cX2_insert 39 = .ok (.iload_n 3, 1) := by decide +kernel
theorem dX2_insert_40 : decode cX2_insert 40 = .ok (.aload_n 0, 1) := by decide +kernel
theorem dX2_insert_41 : decode cX2_insert 41 = .ok (.getfield 9, 3) := by decide +kernel
theorem dX2_insert_44 : decode cX2_insert 44 = .ok (.iload_n 3, 1) := by decide +kernel
theorem dX2_insert_45 : decode cX2_insert 45 = .ok (.iconst 1, 1) := by decide +kernel
theorem dX2_insert_46 : decode cX2_insert 46 = .ok (.isub, 1) := by decide +kernel
theorem dX2_insert_47 : decode cX2_insert 47 = .ok (.iaload, 1) := by decide +kernel
theorem dX2_insert_48 : decode cX2_insert 48 = .ok (.iastore, 1) := by decide +kernel
theorem dX2_insert_49 : decode cX2_insert 49 = .ok (.iinc 3 (-1), 3) := by decide +kernel
theorem dX2_insert_52 : decode cX2_insert 52 = .ok (.goto (-22), 3) := by decide +kernel
theorem dX2_insert_55 : decode cX2_insert 55 = .ok (.aload_n 0, 1) := by decide +kernel
theorem dX2_insert_56 : decode cX2_insert 56 = .ok (.getfield 9, 3) := by decide +kernel
theorem dX2_insert_59 : decode cX2_insert 59 = .ok (.iload_n 2, 1) := by decide +kernel
theorem dX2_insert_60 : decode cX2_insert 60 = .ok (.iload_n 1, 1) := by decide +kernel
theorem dX2_insert_61 : decode cX2_insert 61 = .ok (.iastore, 1) := by decide +kernel
theorem dX2_insert_62 : decode cX2_insert 62 = .ok (.aload_n 0, 1) := by decide +kernel
theorem dX2_insert_63 : decode cX2_insert 63 = .ok (.dup, 1) := by decide +kernel
theorem dX2_insert_64 : decode cX2_insert 64 = .ok (.getfield 15, 3) := by decide +kernel
theorem dX2_insert_67 : decode cX2_insert 67 = .ok (.iconst 1, 1) := by decide +kernel
theorem dX2_insert_68 : decode cX2_insert 68 = .ok (.iadd, 1) := by decide +kernel
theorem dX2_insert_69 : decode cX2_insert 69 = .ok (.putfield 15, 3) := by decide +kernel
theorem dX2_insert_72 : decode cX2_insert 72 = .ok (.return_, 1) := by decide +kernel
theorem dX2_takeOut_0 : decode cX2_takeOut 0 = .ok (.iconst 0, 1) := by decide +kernel
theorem dX2_takeOut_1 : decode cX2_takeOut 1 = .ok (.istore_n 2, 1) := by decide +kernel
theorem dX2_takeOut_2 : decode cX2_takeOut 2 = .ok (.iconst 0, 1) := by decide +kernel
theorem dX2_takeOut_3 : decode cX2_takeOut 3 = .ok (.istore_n 3, 1) := by decide +kernel
theorem dX2_takeOut_4 : decode cX2_takeOut 4 = .ok (.iload_n 3, 1) := by decide +kernel
theorem dX2_takeOut_5 : decode cX2_takeOut 5 = .ok (.aload_n 0, 1) := by decide +kernel
theorem dX2_takeOut_6 : decode cX2_takeOut 6 = .ok (.getfield 15, 3) := by decide +kernel
theorem dX2_takeOut_9 : decode cX2_takeOut 9 = .ok (.if_icmp .ge 43, 3) := by decide +kernel
theorem dX2_takeOut_12 : decode cX2_takeOut 12 = .ok (.iload_n 3, 1) := by decide +kernel
theorem dX2_takeOut_13 : decode cX2_takeOut 13 = .ok (.aload_n 0, 1) := by decide +kernel
theorem dX2_takeOut_14 : decode cX2_takeOut 14 = .ok (.getfield 9, 3) := by decide +kernel
theorem dX2_takeOut_17 : decode cX2_takeOut 17 = .ok (.arraylength, 1) := by decide +kernel
theorem dX2_takeOut_18 : decode cX2_takeOut 18 = .ok (.if_icmp .ge 34, 3) := by decide +kernel
theorem dX2_takeOut_21 : decode cX2_takeOut 21 = .ok (.aload_n 0, 1) := by decide +kernel
theorem dX2_takeOut_22 : decode cX2_takeOut 22 = .ok (.getfield 9, 3) := by decide +kernel
theorem dX2_takeOut_25 : decode cX2_takeOut 25 = .ok (.iload_n 3, 1) := by decide +kernel
theorem dX2_takeOut_26 : decode cX2_takeOut 26 = .ok (.iaload, 1) := by decide +kernel
theorem dX2_takeOut_27 : decode cX2_takeOut 27 = .ok (.iload_n 1, 1) := by decide +kernel
theorem dX2_takeOut_28 : decode cX2_takeOut 28 = .ok (.if_icmp .eq 18, 3) := by decide +kernel
theorem dX2_takeOut_31 : decode cX2_takeOut 31 = .ok (.aload_n 0, 1) := by decide +kernel
theorem dX2_takeOut_32 : decode cX2_takeOut 32 = .ok (.getfield 9, 3) := by decide +kernel
theorem dX2_takeOut_35 : decode cX2_takeOut 35 = .ok (.iload_n 2, 1) := by decide +kernel
theorem dX2_takeOut_36 : decode cX2_takeOut 36 = .ok (.aload_n 0, 1) := by decide +kernel
theorem dX2_takeOut_37 : decode cX2_takeOut 37 = .ok (.getfield 9, 3) := by decide +kernel
theorem dX2_takeOut_40 : decode cX2_takeOut 40 = .ok (.iload_n 3, 1) := by decide +kernel
theorem dX2_takeOut_41 : decode cX2_takeOut 41 = .ok (.iaload, 1) := by decide +kernel
theorem dX2_takeOut_42 : decode cX2_takeOut 42 = .ok (.iastore, 1) := by decide +kernel
theorem dX2_takeOut_43 : decode cX2_takeOut 43 = .ok (.iinc 2 1, 3) := by decide +kernel
theorem dX2_takeOut_46 : decode cX2_takeOut 46 = .ok (.iinc 3 1, 3) := by decide +kernel
theorem dX2_takeOut_49 : decode cX2_takeOut 49 = .ok (.goto (-45), 3) := by decide +kernel
theorem dX2_takeOut_52 : decode cX2_takeOut 52 = .ok (.aload_n 0, 1) := by decide +kernel
theorem dX2_takeOut_53 : decode cX2_takeOut 53 = .ok (.iload_n 2, 1) := by decide +kernel
theorem dX2_takeOut_54 : decode cX2_takeOut 54 = .ok (.putfield 15, 3) := by decide +kernel
theorem dX2_takeOut_57 : decode cX2_takeOut 57 = .ok (.return_, 1) := by decide +kernel
theorem dX2_moveAheadOf_0 : decode cX2_moveAheadOf 0 = .ok (.aload_n 0, 1) := by decide +kernel
theorem dX2_moveAheadOf_1 : decode cX2_moveAheadOf 1 = .ok (.iload_n 1, 1) := by decide +kernel
theorem dX2_moveAheadOf_2 : decode cX2_moveAheadOf 2 = .ok (.invokevirtual 29, 3) := by decide +kernel
theorem dX2_moveAheadOf_5 : decode cX2_moveAheadOf 5 = .ok (.aload_n 0, 1) := by decide +kernel
theorem dX2_moveAheadOf_6 : decode cX2_moveAheadOf 6 = .ok (.iload_n 1, 1) := by decide +kernel
theorem dX2_moveAheadOf_7 : decode cX2_moveAheadOf 7 = .ok (.aload_n 0, 1) := by decide +kernel
theorem dX2_moveAheadOf_8 : decode cX2_moveAheadOf 8 = .ok (.iload_n 2, 1) := by decide +kernel
theorem dX2_moveAheadOf_9 : decode cX2_moveAheadOf 9 = .ok (.invokevirtual 33, 3) := by decide +kernel
theorem dX2_moveAheadOf_12 : decode cX2_moveAheadOf 12 = .ok (.invokevirtual 36, 3) := by decide +kernel
theorem dX2_moveAheadOf_15 : decode cX2_moveAheadOf 15 = .ok (.return_, 1) := by decide +kernel
theorem dX2_moveBehind_0 : decode cX2_moveBehind 0 = .ok (.aload_n 0, 1) := by decide +kernel
theorem dX2_moveBehind_1 : decode cX2_moveBehind 1 = .ok (.iload_n 1, 1) := by decide +kernel
theorem dX2_moveBehind_2 : decode cX2_moveBehind 2 = .ok (.invokevirtual 29, 3) := by decide +kernel
theorem dX2_moveBehind_5 : decode cX2_moveBehind 5 = .ok (.aload_n 0, 1) := by decide +kernel
theorem dX2_moveBehind_6 : decode cX2_moveBehind 6 = .ok (.iload_n 1, 1) := by decide +kernel
theorem dX2_moveBehind_7 : decode cX2_moveBehind 7 = .ok (.aload_n 0, 1) := by decide +kernel
theorem dX2_moveBehind_8 : decode cX2_moveBehind 8 = .ok (.iload_n 2, 1) := by decide +kernel
theorem dX2_moveBehind_9 : decode cX2_moveBehind 9 = .ok (.invokevirtual 33, 3) := by decide +kernel
theorem dX2_moveBehind_12 : decode cX2_moveBehind 12 = .ok (.iconst 1, 1) := by decide +kernel
theorem dX2_moveBehind_13 : decode cX2_moveBehind 13 = .ok (.iadd, 1) := by decide +kernel
theorem dX2_moveBehind_14 : decode cX2_moveBehind 14 = .ok (.invokevirtual 36, 3) := by decide +kernel
theorem dX2_moveBehind_17 : decode cX2_moveBehind 17 = .ok (.return_, 1) := by decide +kernel
theorem dX3_init_0 : decode cX3_init 0 = .ok (.aload_n 0, 1) := by decide +kernel
theorem dX3_init_1 : decode cX3_init 1 = .ok (.invokespecial 3, 3) := by decide +kernel
theorem dX3_init_4 : decode cX3_init 4 = .ok (.aload_n 0, 1) := by decide +kernel
theorem dX3_init_5 : decode cX3_init 5 = .ok (.bipush 10, 2) := by decide +kernel
theorem dX3_init_7 : decode cX3_init 7 = .ok (.anewarray 9, 3) := by decide +kernel
theorem dX3_init_10 : decode cX3_init 10 = .ok (.putfield 11, 3) := by decide +kernel
theorem dX3_init_13 : decode cX3_init 13 = .ok (.aload_n 0, 1) := by decide +kernel
theorem dX3_init_14 : decode cX3_init 14 = .ok (.new 9, 3) := by decide +kernel
theorem dX3_init_17 : decode cX3_init 17 = .ok (.dup, 1) := by decide +kernel
theorem dX3_init_18 : decode cX3_init 18 = .ok (.invokespecial 17, 3) := by decide +kernel
theorem dX3_init_21 : decode cX3_init 21 = .ok (.putfield 18, 3) := by decide +kernel
theorem dX3_init_24 : decode cX3_init 24 = .ok (.aload_n 0, 1) := by decide +kernel
theorem dX3_init_25 : decode cX3_init 25 = .ok (.new 22, 3) := by decide +kernel
theorem dX3_init_28 : decode cX3_init 28 = .ok (.dup, 1) := by decide +kernel
theorem dX3_init_29 : decode cX3_init 29 = .ok (.invokespecial 24, 3) := by decide +kernel
theorem dX3_init_32 : decode cX3_init 32 = .ok (.putfield 25, 3) := by decide +kernel
theorem dX3_init_35 : decode cX3_init 35 = .ok (.aload_n 0, 1) := by decide +kernel
theorem dX3_init_36 : decode cX3_init 36 = .ok (.bipush 10, 2) := by decide +kernel
theorem dX3_init_38 : decode cX3_init 38 = .ok (.newarray .int, 2) := by decide +kernel
theorem dX3_init_40 : decode cX3_init 40 = .ok (.putfield 29, 3) := by decide +kernel
theorem dX3_init_43 : decode cX3_init 43 = .ok (.aload_n 0, 1) := by decide +kernel
theorem dX3_init_44 : decode cX3_init 44 = .ok (.iconst 0, 1) := by decide +kernel
theorem dX3_init_45 : decode cX3_init 45 = .ok (.putfield 33, 3) := by decide +kernel
theorem dX3_init_48 : decode cX3_init 48 = .ok (.aload_n 0, 1) := by decide +kernel
theorem dX3_init_49 : decode cX3_init 49 = .ok (.iconst 0, 1) := by decide +kernel
theorem dX3_init_50 : decode cX3_init 50 = .ok (.putfield 37, 3) := by decide +kernel
theorem dX3_init_53 : decode cX3_init 53 = .ok (.aload_n 0, 1) := by decide +kernel
theorem dX3_init_54 : decode cX3_init 54 = .ok (.iconst (-1), 1) := by decide +kernel
theorem dX3_init_55 : decode cX3_init 55 = .ok (.putfield 40, 3) := by decide +kernel
theorem dX3_init_58 : decode cX3_init 58 = .ok (.aload_n 0, 1) := by decide +kernel
theorem dX3_init_59 : decode cX3_init 59 = .ok (.iconst 0, 1) := by decide +kernel
theorem dX3_init_60 : decode cX3_init 60 = .ok (.putfield 43, 3) := by decide +kernel
theorem dX3_init_63 : decode cX3_init 63 = .ok (.aload_n 0, 1) := by decide +kernel
theorem dX3_init_64 : decode cX3_init 64 = .ok (.iconst 0, 1) := by decide +kernel
theorem dX3_init_65 : decode cX3_init 65 = .ok (.putfield 46, 3) := by decide +kernel
theorem dX3_init_68 : decode cX3_init 68 = .ok (.aload_n 0, 1) := by decide +kernel
theorem dX3_init_69 : decode cX3_init 69 = .ok (.iconst 0, 1) := by decide +kernel
theorem dX3_init_70 : decode cX3_init 70 = .ok (.putfield 49, 3) := by decide +kernel
theorem dX3_init_73 : decode cX3_init 73 = .ok (.iconst 0, 1) := by decide +kernel
theorem dX3_init_74 : decode cX3_init 74 = .ok (.istore_n 1, 1) := by decide +kernel
theorem dX3_init_75 : decode cX3_init 75 = .ok (.iload_n 1, 1) := by decide +kernel
theorem dX3_init_76 : decode cX3_init 76 = .ok (.aload_n 0, 1) := by decide +kernel
theorem dX3_init_77 : decode cX3_init 77 = .ok (.getfield 11, 3) := by decide +kernel
theorem dX3_init_80 : decode cX3_init 80 = .ok (.arraylength, 1) := by decide +kernel
theorem dX3_init_81 : decode cX3_init 81 = .ok (.if_icmp .ge 22, 3) := by decide +kernel
theorem dX3_init_84 : decode cX3_init 84 = .ok (.aload_n 0, 1) := by decide +kernel
theorem dX3_init_85 : decode cX3_init 85 = .ok (.getfield 11, 3) := by decide +kernel
theorem dX3_init_88 : decode cX3_init 88 = .ok (.iload_n 1, 1) := by decide +kernel
theorem dX3_init_89 : decode cX3_init 89 = .ok (.new 9, 3) := by decide +kernel
theorem dX3_init_92 : decode cX3_init 92 = .ok (.dup, 1) := by decide +kernel
theorem dX3_init_93 : decode cX3_init 93 = .ok (.invokespecial 17, 3) := by decide +kernel
theorem dX3_init_96 : decode cX3_init 96 = .ok (.aastore, 1) := by decide +kernel
theorem dX3_init_97 : decode cX3_init 97 = .ok (.iinc 1 1, 3) := by decide +kernel
theorem dX3_init_100 : decode cX3_init 100 = .ok (.goto (-25), 3) := by decide +kernel
theorem dX3_init_103 : decode cX3_init 103 = .ok (.return_, 1) := by decide +kernel
theorem dX3_copyFrom_0 : decode cX3_copyFrom 0 = .ok (.aload_n 0, 1) := by decide +kernel
theorem dX3_copyFrom_1 : decode cX3_copyFrom 1 = .ok (.aload_n 1, 1) := by decide +kernel
theorem dX3_copyFrom_2 : decode cX3_copyFrom 2 = .ok (.getfield 33, 3) := by decide +kernel
theorem dX3_copyFrom_5 : decode cX3_copyFrom 5 = .ok (.putfield 33, 3) := by decide +kernel
theorem dX3_copyFrom_8 : decode cX3_copyFrom 8 = .ok (.iconst 0, 1) := by decide +kernel
theorem dX3_copyFrom_9 : decode cX3_copyFrom 9 = .ok (.istore_n 2, 1) := by decide +kernel
theorem dX3_copyFrom_10 : decode cX3_copyFrom 10 = .ok (.iload_n 2, 1) := by decide +kernel
theorem dX3_copyFrom_11 : decode cX3_copyFrom 11 = .ok (.aload_n 0, 1) := by decide +kernel
theorem dX3_copyFrom_12 : decode cX3_copyFrom 12 = .ok (.getfield 33, 3) := by decide +kernel
theorem dX3_copyFrom_15 : decode cX3_copyFrom 15 = .ok (.if_icmp .ge 33, 3) := by decide +kernel
theorem dX3_copyFrom_18 : decode cX3_copyFrom 18 = .ok (.iload_n 2, 1) := by decide +kernel
theorem dX3_copyFrom_19 : decode cX3_copyFrom 19 = .ok (.aload_n 0, 1) := by decide +kernel
theorem dX3_copyFrom_20 : decode cX3_copyFrom 20 = .ok (.getfield 11, 3) := by decide +kernel
theorem dX3_copyFrom_23 : decode cX3_copyFrom 23 = .ok (.arraylength, 1) := by decide +kernel
theorem dX3_copyFrom_24 : decode cX3_copyFrom 24 = .ok (.if_icmp .ge 24, 3) := by decide +kernel
theorem dX3_copyFrom_27 : decode cX3_copyFrom 27 = .ok (.aload_n 0, 1) := by decide +kernel
theorem dX3_copyFrom_28 : decode cX3_copyFrom 28 = .ok (.getfield 11, 3) := by decide +kernel
theorem dX3_copyFrom_31 : decode cX3_copyFrom 31 = .ok (.iload_n 2, 1) := by decide +kernel
theorem dX3_copyFrom_32 : decode cX3_copyFrom 32 = .ok (.aaload, 1) := by decide +kernel
theorem dX3_copyFrom_33 : decode cX3_copyFrom 33 = .ok (.aload_n 1, 1) := by decide +kernel
theorem dX3_copyFrom_34 : decode cX3_copyFrom 34 = .ok (.getfield 11, 3) := by decide +kernel
theorem dX3_copyFrom_37 : decode cX3_copyFrom 37 = .ok (.iload_n 2, 1) := by decide +kernel
theorem dX3_copyFrom_38 : decode cX3_copyFrom 38 = .ok (.aaload, 1) := by decide +kernel
theorem dX3_copyFrom_39 : decode cX3_copyFrom 39 = .ok (.invokevirtual 52, 3) := by decide +kernel
theorem dX3_copyFrom_42 : decode cX3_copyFrom 42 = .ok (.iinc 2 1, 3) := by decide +kernel
theorem dX3_copyFrom_45 : decode cX3_copyFrom 45 = .ok (.goto (-35), 3) := by decide +kernel
theorem dX3_copyFrom_48 : decode cX3_copyFrom 48 = .ok (.aload_n 0, 1) := by decide +kernel
theorem dX3_copyFrom_49 : decode cX3_copyFrom 49 = .ok (.getfield 25, 3) := by decide +kernel
theorem dX3_copyFrom_52 : decode cX3_copyFrom 52 = .ok (.aload_n 1, 1) := by decide +kernel
theorem dX3_copyFrom_53 : decode cX3_copyFrom 53 = .ok (.getfield 25, 3) := by decide +kernel
theorem dX3_copyFrom_56 : decode cX3_copyFrom 56 = .ok (.invokevirtual 56, 3) := by decide +kernel
theorem dX3_copyFrom_59 : decode cX3_copyFrom 59 = .ok (.aload_n 0, 1) := by decide +kernel
theorem dX3_copyFrom_60 : decode cX3_copyFrom 60 = .ok (.aload_n 1, 1) := by decide +kernel
theorem dX3_copyFrom_61 : decode cX3_copyFrom 61 = .ok (.getfield 37, 3) := by decide +kernel
theorem dX3_copyFrom_64 : decode cX3_copyFrom 64 = .ok (.putfield 37, 3) := by decide +kernel
theorem dX3_copyFrom_67 : decode cX3_copyFrom 67 = .ok (.aload_n 0, 1) := by decide +kernel
theorem dX3_copyFrom_68 : decode cX3_copyFrom 68 = .ok (.aload_n 1, 1) := by decide +kernel
theorem dX3_copyFrom_69 : decode cX3_copyFrom 69 = .ok (.getfield 40, 3) := by decide +kernel
theorem dX3_copyFrom_72 : decode cX3_copyFrom 72 = .ok (.putfield 40, 3) := by decide +kernel
theorem dX3_copyFrom_75 : decode cX3_copyFrom 75 = .ok (.aload_n 0, 1) := by decide +kernel
theorem dX3_copyFrom_76 : decode cX3_copyFrom 76 = .ok (.aload_n 1, 1) := by decide +kernel
theorem dX3_copyFrom_77 : decode cX3_copyFrom 77 = .ok (.getfield 43, 3) := by decide +kernel
theorem dX3_copyFrom_80 : decode cX3_copyFrom 80 = .ok (.putfield 43, 3) := by decide +kernel
theorem dX3_copyFrom_83 : decode cX3_copyFrom 83 = .ok (.aload_n 0, 1) := by decide +kernel
theorem dX3_copyFrom_84 : decode cX3_copyFrom 84 = .ok (.aload_n 1, 1) := by decide +kernel
theorem dX3_copyFrom_85 : decode cX3_copyFrom 85 = .ok (.getfield 46, 3) := by decide +kernel
theorem dX3_copyFrom_88 : decode cX3_copyFrom 88 = .ok (.putfield 46, 3) := by decide +kernel
theorem dX3_copyFrom_91 : decode cX3_copyFrom 91 = .ok (.aload_n 0, 1) := by decide +kernel
theorem dX3_copyFrom_92 : decode cX3_copyFrom 92 = .ok (.aload_n 1, 1) := by decide +kernel
theorem dX3_copyFrom_93 : decode cX3_copyFrom 93 = .ok (.getfield 49, 3) := by decide +kernel
theorem dX3_copyFrom_96 : decode cX3_copyFrom 96 = .ok (.putfield 49, 3) := by decide +kernel
theorem dX3_copyFrom_99 : decode cX3_copyFrom 99 = .ok (.return_, 1) := by decide +kernel
theorem dX3_isFighter_0 : decode cX3_isFighter 0 = .ok (.iload_n 1, 1) := by decide +kernel
theorem dX3_isFighter_1 : decode cX3_isFighter 1 = .ok (.ifCond .lt 15, 3) := by decide +kernel
theorem dX3_isFighter_4 : decode cX3_isFighter 4 = .ok (.iload_n 1, 1) := by decide +kernel
theorem dX3_isFighter_5 : decode cX3_isFighter 5 = .ok (.aload_n 0, 1) := by decide +kernel
theorem dX3_isFighter_6 : decode cX3_isFighter 6 = .ok (.getfield 33, 3) := by decide +kernel
theorem dX3_isFighter_9 : decode cX3_isFighter 9 = .ok (.if_icmp .ge 7, 3) := by decide +kernel
theorem dX3_isFighter_12 : decode cX3_isFighter 12 = .ok (.iconst 1, 1) := by decide +kernel
theorem dX3_isFighter_13 : decode cX3_isFighter 13 = .ok (.goto 4, 3) := by decide +kernel
theorem dX3_isFighter_16 : decode cX3_isFighter 16 = .ok (.iconst 0, 1) := by decide +kernel
theorem dX3_isFighter_17 : decode cX3_isFighter 17 = .ok (.ireturn, 1) := by decide +kernel
theorem dX3_at_0 : decode cX3_at 0 = .ok (.iload_n 1, 1) := by decide +kernel
theorem dX3_at_1 : decode cX3_at 1 = .ok (.ifCond .lt 29, 3) := by decide +kernel
theorem dX3_at_4 : decode cX3_at 4 = .ok (.iload_n 1, 1) := by decide +kernel
theorem dX3_at_5 : decode cX3_at 5 = .ok (.aload_n 0, 1) := by decide +kernel
theorem dX3_at_6 : decode cX3_at 6 = .ok (.getfield 33, 3) := by decide +kernel
theorem dX3_at_9 : decode cX3_at 9 = .ok (.if_icmp .ge 21, 3) := by decide +kernel
theorem dX3_at_12 : decode cX3_at 12 = .ok (.iload_n 1, 1) := by decide +kernel
theorem dX3_at_13 : decode cX3_at 13 = .ok (.aload_n 0, 1) := by decide +kernel
theorem dX3_at_14 : decode cX3_at 14 = .ok (.getfield 11, 3) := by decide +kernel
theorem dX3_at_17 : decode cX3_at 17 = .ok (.arraylength, 1) := by decide +kernel
theorem dX3_at_18 : decode cX3_at 18 = .ok (.if_icmp .ge 12, 3) := by decide +kernel
theorem dX3_at_21 : decode cX3_at 21 = .ok (.aload_n 0, 1) := by decide +kernel
theorem dX3_at_22 : decode cX3_at 22 = .ok (.getfield 11, 3) := by decide +kernel
theorem dX3_at_25 : decode cX3_at 25 = .ok (.iload_n 1, 1) := by decide +kernel
theorem dX3_at_26 : decode cX3_at 26 = .ok (.aaload, 1) := by decide +kernel
theorem dX3_at_27 : decode cX3_at 27 = .ok (.goto 7, 3) := by decide +kernel
theorem dX3_at_30 : decode cX3_at 30 = .ok (.aload_n 0, 1) := by decide +kernel
theorem dX3_at_31 : decode cX3_at 31 = .ok (.getfield 18, 3) := by decide +kernel
theorem dX3_at_34 : decode cX3_at 34 = .ok (.areturn, 1) := by decide +kernel
theorem dX3_enter_0 : decode cX3_enter 0 = .ok (.aload_n 0, 1) := by decide +kernel
theorem dX3_enter_1 : decode cX3_enter 1 = .ok (.getfield 33, 3) := by decide +kernel
theorem dX3_enter_4 : decode cX3_enter 4 = .ok (.ifCond .lt 15, 3) := by decide +kernel
theorem dX3_enter_7 : decode cX3_enter 7 = .ok (.aload_n 0, 1) := by decide +kernel
theorem dX3_enter_8 : decode cX3_enter 8 = .ok (.getfield 33, 3) := by decide +kernel
theorem dX3_enter_11 : decode cX3_enter 11 = .ok (.aload_n 0, 1) := by decide +kernel
theorem dX3_enter_12 : decode cX3_enter 12 = .ok (.getfield 11, 3) := by decide +kernel
theorem dX3_enter_15 : decode cX3_enter 15 = .ok (.arraylength, 1) := by decide +kernel
theorem dX3_enter_16 : decode cX3_enter 16 = .ok (.if_icmp .lt 5, 3) := by decide +kernel
theorem dX3_enter_19 : decode cX3_enter 19 = .ok (.iconst (-1), 1) := by decide +kernel
theorem dX3_enter_20 : decode cX3_enter 20 = .ok (.ireturn, 1) := by decide +kernel
theorem dX3_enter_21 : decode cX3_enter 21 = .ok (.aload_n 0, 1) := by decide +kernel
theorem dX3_enter_22 : decode cX3_enter 22 = .ok (.getfield 33, 3) := by decide +kernel
theorem dX3_enter_25 : decode cX3_enter 25 = .ok (.istore 5, 2) := by decide +kernel
theorem dX3_enter_27 : decode cX3_enter 27 = .ok (.aload_n 0, 1) := by decide +kernel
theorem dX3_enter_28 : decode cX3_enter 28 = .ok (.getfield 11, 3) := by decide +kernel
theorem dX3_enter_31 : decode cX3_enter 31 = .ok (.iload 5, 2) := by decide +kernel
theorem dX3_enter_33 : decode cX3_enter 33 = .ok (.aaload, 1) := by decide +kernel
theorem dX3_enter_34 : decode cX3_enter 34 = .ok (.iload_n 1, 1) := by decide +kernel
theorem dX3_enter_35 : decode cX3_enter 35 = .ok (.iload_n 2, 1) := by decide +kernel
theorem dX3_enter_36 : decode cX3_enter 36 = .ok (.iload_n 3, 1) := by decide +kernel
theorem dX3_enter_37 : decode cX3_enter 37 = .ok (.iload 4, 2) := by decide +kernel
theorem dX3_enter_39 : decode cX3_enter 39 = .ok (.invokevirtual 66, 3) := by decide +kernel
theorem dX3_enter_42 : decode cX3_enter 42 = .ok (.aload_n 0, 1) := by decide +kernel
theorem dX3_enter_43 : decode cX3_enter 43 = .ok (.dup, 1) := by decide +kernel
theorem dX3_enter_44 : decode cX3_enter 44 = .ok (.getfield 33, 3) := by decide +kernel
theorem dX3_enter_47 : decode cX3_enter 47 = .ok (.iconst 1, 1) := by decide +kernel
theorem dX3_enter_48 : decode cX3_enter 48 = .ok (.iadd, 1) := by decide +kernel
theorem dX3_enter_49 : decode cX3_enter 49 = .ok (.putfield 33, 3) := by decide +kernel
theorem dX3_enter_52 : decode cX3_enter 52 = .ok (.aload_n 0, 1) := by decide +kernel
theorem dX3_enter_53 : decode cX3_enter 53 = .ok (.iload 5, 2) := by decide +kernel
theorem dX3_enter_55 : decode cX3_enter 55 = .ok (.invokevirtual 70, 3) := by decide +kernel
theorem dX3_enter_58 : decode cX3_enter 58 = .ok (.iload 5, 2) := by decide +kernel
theorem dX3_enter_60 : decode cX3_enter 60 = .ok (.ireturn, 1) := by decide +kernel
theorem dX3_lineUp_0 : decode cX3_lineUp 0 = .ok (.aload_n 0, 1) := by decide +kernel
theorem dX3_lineUp_1 : decode cX3_lineUp 1 = .ok (.iload_n 1, 1) := by decide +kernel
theorem dX3_lineUp_2 : decode cX3_lineUp 2 = .ok (.invokevirtual 59, 3) := by decide +kernel
theorem dX3_lineUp_5 : decode cX3_lineUp 5 = .ok (.getfield 74, 3) := by decide +kernel
theorem dX3_lineUp_8 : decode cX3_lineUp 8 = .ok (.istore_n 2, 1) := by decide +kernel
theorem dX3_lineUp_9 : decode cX3_lineUp 9 = .ok (.iconst 0, 1) := by decide +kernel
theorem dX3_lineUp_10 : decode cX3_lineUp 10 = .ok (.istore_n 3, 1) := by decide +kernel
theorem dX3_lineUp_11 : decode cX3_lineUp 11 = .ok (.iload_n 3, 1) := by decide +kernel
theorem dX3_lineUp_12 : decode cX3_lineUp 12 = .ok (.aload_n 0, 1) := by decide +kernel
theorem dX3_lineUp_13 : decode cX3_lineUp 13 = .ok (.getfield 25, 3) := by decide +kernel
theorem dX3_lineUp_16 : decode cX3_lineUp 16 = .ok (.getfield 77, 3) := by decide +kernel
theorem dX3_lineUp_19 : decode cX3_lineUp 19 = .ok (.if_icmp .ge 28, 3) := by decide +kernel
theorem dX3_lineUp_22 : decode cX3_lineUp 22 = .ok (.aload_n 0, 1) := by decide +kernel
theorem dX3_lineUp_23 : decode cX3_lineUp 23 = .ok (.aload_n 0, 1) := by decide +kernel
theorem dX3_lineUp_24 : decode cX3_lineUp 24 = .ok (.getfield 25, 3) := by decide +kernel
theorem dX3_lineUp_27 : decode cX3_lineUp 27 = .ok (.iload_n 3, 1) := by decide +kernel
theorem dX3_lineUp_28 : decode cX3_lineUp 28 = .ok (.invokevirtual 80, 3) := by decide +kernel
theorem dX3_lineUp_31 : decode cX3_lineUp 31 = .ok (.invokevirtual 59, 3) := by decide +kernel
theorem dX3_lineUp_34 : decode cX3_lineUp 34 = .ok (.getfield 74, 3) := by decide +kernel
theorem dX3_lineUp_37 : decode cX3_lineUp 37 = .ok (.iload_n 2, 1) := by decide +kernel
theorem dX3_lineUp_38 : decode cX3_lineUp 38 = .ok (.if_icmp .lt 9, 3) := by decide +kernel
theorem dX3_lineUp_41 : decode cX3_lineUp 41 = .ok (.iinc 3 1, 3) := by decide +kernel
theorem dX3_lineUp_44 : decode cX3_lineUp 44 = .ok (.goto (-33), 3) := by decide +kernel
theorem dX3_lineUp_47 : decode cX3_lineUp 47 = .ok (.aload_n 0, 1) := by decide +kernel
theorem dX3_lineUp_48 : decode cX3_lineUp 48 = .ok (.getfield 25, 3) := by decide +kernel
theorem dX3_lineUp_51 : decode cX3_lineUp 51 = .ok (.iload_n 1, 1) := by decide +kernel
theorem dX3_lineUp_52 : decode cX3_lineUp 52 = .ok (.iload_n 3, 1) := by decide +kernel
theorem dX3_lineUp_53 : decode cX3_lineUp 53 = .ok (.invokevirtual 84, 3) := by decide +kernel
theorem dX3_lineUp_56 : decode cX3_lineUp 56 = .ok (.return_, 1) := by decide +kernel
theorem dX3_beginAnew_0 : decode cX3_beginAnew 0 = .ok (.aload_n 0, 1) := by decide +kernel
theorem dX3_beginAnew_1 : decode cX3_beginAnew 1 = .ok (.getfield 25, 3) := by decide +kernel
theorem dX3_beginAnew_4 : decode cX3_beginAnew 4 = .ok (.iconst 0, 1) := by decide +kernel
theorem dX3_beginAnew_5 : decode cX3_beginAnew 5 = .ok (.putfield 77, 3) := by decide +kernel
theorem dX3_beginAnew_8 : decode cX3_beginAnew 8 = .ok (.iconst 0, 1) := by decide +kernel
theorem dX3_beginAnew_9 : decode cX3_beginAnew 9 = .ok (.istore_n 1, 1) := by decide +kernel
theorem dX3_beginAnew_10 : decode cX3_beginAnew 10 = .ok (.iload_n 1, 1) := by decide +kernel
theorem dX3_beginAnew_11 : decode cX3_beginAnew 11 = .ok (.aload_n 0, 1) := by decide +kernel
theorem dX3_beginAnew_12 : decode cX3_beginAnew 12 = .ok (.getfield 33, 3) := by decide +kernel
theorem dX3_beginAnew_15 : decode cX3_beginAnew 15 = .ok (.if_icmp .ge 22, 3) := by decide +kernel
theorem dX3_beginAnew_18 : decode cX3_beginAnew 18 = .ok (.aload_n 0, 1) := by decide +kernel
theorem dX3_beginAnew_19 : decode cX3_beginAnew 19 = .ok (.iload_n 1, 1) := by decide +kernel
theorem dX3_beginAnew_20 : decode cX3_beginAnew 20 = .ok (.invokevirtual 59, 3) := by decide +kernel
theorem dX3_beginAnew_23 : decode cX3_beginAnew 23 = .ok (.invokevirtual 88, 3) := by decide +kernel
theorem dX3_beginAnew_26 : decode cX3_beginAnew 26 = .ok (.aload_n 0, 1) := by decide +kernel
theorem dX3_beginAnew_27 : decode cX3_beginAnew 27 = .ok (.iload_n 1, 1) := by decide +kernel
theorem dX3_beginAnew_28 : decode cX3_beginAnew 28 = .ok (.invokevirtual 70, 3) := by decide +kernel
theorem dX3_beginAnew_31 : decode cX3_beginAnew 31 = .ok (.iinc 1 1, 3) := by decide +kernel
theorem dX3_beginAnew_34 : decode cX3_beginAnew 34 = .ok (.goto (-24), 3) := by decide +kernel
theorem dX3_beginAnew_37 : decode cX3_beginAnew 37 = .ok (.aload_n 0, 1) := by decide +kernel
theorem dX3_beginAnew_38 : decode cX3_beginAnew 38 = .ok (.iconst 1, 1) := by decide +kernel
theorem dX3_beginAnew_39 : decode cX3_beginAnew 39 = .ok (.putfield 37, 3) := by decide +kernel
theorem dX3_beginAnew_42 : decode cX3_beginAnew 42 = .ok (.aload_n 0, 1) := by decide +kernel
theorem dX3_beginAnew_43 : decode cX3_beginAnew 43 = .ok (.invokevirtual 91, 3) := by decide +kernel
theorem dX3_beginAnew_46 : decode cX3_beginAnew 46 = .ok (.aload_n 0, 1) := by decide +kernel
theorem dX3_beginAnew_47 : decode cX3_beginAnew 47 = .ok (.aload_n 0, 1) := by decide +kernel
theorem dX3_beginAnew_48 : decode cX3_beginAnew 48 = .ok (.iconst 0, 1) := by decide +kernel
theorem dX3_beginAnew_49 : decode cX3_beginAnew 49 = .ok (.invokevirtual 94, 3) := by decide +kernel
theorem dX3_beginAnew_52 : decode cX3_beginAnew 52 = .ok (.putfield 40, 3) := by decide +kernel
theorem dX3_beginAnew_55 : decode cX3_beginAnew 55 = .ok (.aload_n 0, 1) := by decide +kernel
theorem dX3_beginAnew_56 : decode cX3_beginAnew 56 = .ok (.getfield 40, 3) := by decide +kernel
theorem dX3_beginAnew_59 : decode cX3_beginAnew 59 = .ok (.iconst (-1), 1) := by decide +kernel
theorem dX3_beginAnew_60 : decode cX3_beginAnew 60 = .ok (.if_icmp .eq 14, 3) := by decide +kernel
theorem dX3_beginAnew_63 : decode cX3_beginAnew 63 = .ok (.aload_n 0, 1) := by decide +kernel
theorem dX3_beginAnew_64 : decode cX3_beginAnew 64 = .ok (.invokevirtual 97, 3) := by decide +kernel
theorem dX3_beginAnew_67 : decode cX3_beginAnew 67 = .ok (.ifCond .ne 7, 3) := by decide +kernel
theorem dX3_beginAnew_70 : decode cX3_beginAnew 70 = .ok (.aload_n 0, 1) := by decide +kernel
theorem dX3_beginAnew_71 : decode cX3_beginAnew 71 = .ok (.invokevirtual 101, 3) := by decide +kernel
theorem dX3_beginAnew_74 : decode cX3_beginAnew 74 = .ok (.return_, 1) := by decide +kernel
theorem dX3_endDelays_0 : decode cX3_endDelays 0 = .ok (.iconst 0, 1) := by decide +kernel
theorem dX3_endDelays_1 : decode cX3_endDelays 1 = .ok (.istore_n 1, 1) := by decide +kernel
theorem dX3_endDelays_2 : decode cX3_endDelays 2 = .ok (.iload_n 1, 1) := by decide +kernel
theorem dX3_endDelays_3 : decode cX3_endDelays 3 = .ok (.aload_n 0, 1) := by decide +kernel
theorem dX3_endDelays_4 : decode cX3_endDelays 4 = .ok (.getfield 33, 3) := by decide +kernel
theorem dX3_endDelays_7 : decode cX3_endDelays 7 = .ok (.if_icmp .ge 18, 3) := by decide +kernel
theorem dX3_endDelays_10 : decode cX3_endDelays 10 = .ok (.aload_n 0, 1) := by decide +kernel
theorem dX3_endDelays_11 : decode cX3_endDelays 11 = .ok (.iload_n 1, 1) := by decide +kernel
theorem dX3_endDelays_12 : decode cX3_endDelays 12 = .ok (.invokevirtual 59, 3) := by decide +kernel
theorem dX3_endDelays_15 : decode cX3_endDelays 15 = .ok (.iconst 0, 1) := by decide +kernel
theorem dX3_endDelays_16 : decode cX3_endDelays 16 = .ok (.putfield 104, 3) := by decide +kernel
theorem dX3_endDelays_19 : decode cX3_endDelays 19 = .ok (.iinc 1 1, 3) := by decide +kernel
theorem dX3_endDelays_22 : decode cX3_endDelays 22 = .ok (.goto (-20), 3) := by decide +kernel
theorem dX3_endDelays_25 : decode cX3_endDelays 25 = .ok (.return_, 1) := by decide +kernel
theorem dX3_nextFrom_0 : decode cX3_nextFrom 0 = .ok (.iload_n 1, 1) := by decide +kernel
theorem dX3_nextFrom_1 : decode cX3_nextFrom 1 = .ok (.istore_n 2, 1) := by decide +kernel
theorem dX3_nextFrom_2 : decode cX3_nextFrom 2 = .ok (.iload_n 2, 1) := by decide +kernel
theorem dX3_nextFrom_3 : decode cX3_nextFrom 3 = .ok (.aload_n 0, 1) := by decide +kernel
theorem dX3_nextFrom_4 : decode cX3_nextFrom 4 = .ok (.getfield 25, 3) := by decide +kernel
theorem dX3_nextFrom_7 : decode cX3_nextFrom 7 = .ok (.getfield 77, 3) := by decide +kernel
theorem dX3_nextFrom_10 : decode cX3_nextFrom 10 = .ok (.if_icmp .ge 45, 3) := by decide +kernel
theorem dX3_nextFrom_13 : decode cX3_nextFrom 13 = .ok (.aload_n 0, 1) := by decide +kernel
theorem dX3_nextFrom_14 : decode cX3_nextFrom 14 = .ok (.aload_n 0, 1) := by decide +kernel
theorem dX3_nextFrom_15 : decode cX3_nextFrom 15 = .ok (.getfield 25, 3) := by decide +kernel
theorem dX3_nextFrom_18 : decode cX3_nextFrom 18 = .ok (.iload_n 2, 1) := by decide +kernel
theorem dX3_nextFrom_19 : decode cX3_nextFrom 19 = .ok (.invokevirtual 80, 3) := by decide +kernel
theorem dX3_nextFrom_22 : decode cX3_nextFrom 22 = .ok (.invokevirtual 59, 3) := by decide +kernel
theorem dX3_nextFrom_25 : decode cX3_nextFrom 25 = .ok (.astore_n 3, 1) := by decide +kernel
theorem dX3_nextFrom_26 : decode cX3_nextFrom 26 = .ok (.aload_n 3, 1) := by decide +kernel
theorem dX3_nextFrom_27 : decode cX3_nextFrom 27 = .ok (.invokevirtual 108, 3) := by decide +kernel
theorem dX3_nextFrom_30 : decode cX3_nextFrom 30 = .ok (.ifCond .ne 19, 3) := by decide +kernel
theorem dX3_nextFrom_33 : decode cX3_nextFrom 33 = .ok (.aload_n 3, 1) := by decide +kernel
theorem dX3_nextFrom_34 : decode cX3_nextFrom 34 = .ok (.getfield 104, 3) := by decide +kernel
theorem dX3_nextFrom_37 : decode cX3_nextFrom 37 = .ok (.ifCond .ne 12, 3) := by decide +kernel
theorem dX3_nextFrom_40 : decode cX3_nextFrom 40 = .ok (.aload_n 0, 1) := by decide +kernel
theorem dX3_nextFrom_41 : decode cX3_nextFrom 41 = .ok (.getfield 25, 3) := by decide +kernel
theorem dX3_nextFrom_44 : decode cX3_nextFrom 44 = .ok (.iload_n 2, 1) := by decide +kernel
theorem dX3_nextFrom_45 : decode cX3_nextFrom 45 = .ok (.invokevirtual 80, 3) := by decide +kernel
theorem dX3_nextFrom_48 : decode cX3_nextFrom 48 = .ok (.ireturn, 1) := by decide +kernel
theorem dX3_nextFrom_49 : decode cX3_nextFrom 49 = .ok (.iinc 2 1, 3) := by decide +kernel
theorem dX3_nextFrom_52 : decode cX3_nextFrom 52 = .ok (.goto (-50), 3) := by decide +kernel
theorem dX3_nextFrom_55 : decode cX3_nextFrom 55 = .ok (.iconst (-1), 1) := by decide +kernel
theorem dX3_nextFrom_56 : decode cX3_nextFrom 56 = .ok (.ireturn, 1) := by decide +kernel
theorem dX3_beginTurn_0 : decode cX3_beginTurn 0 = .ok (.aload_n 0, 1) := by decide +kernel
theorem dX3_beginTurn_1 : decode cX3_beginTurn 1 = .ok (.aload_n 0, 1) := by decide +kernel
theorem dX3_beginTurn_2 : decode cX3_beginTurn 2 = .ok (.getfield 40, 3) := by decide +kernel
theorem dX3_beginTurn_5 : decode cX3_beginTurn 5 = .ok (.invokevirtual 59, 3) := by decide +kernel
theorem dX3_beginTurn_8 : decode cX3_beginTurn 8 = .ok (.astore_n 1, 1) := by decide +kernel
theorem dX3_beginTurn_9 : decode cX3_beginTurn 9 = .ok (.aload_n 0, 1) := by decide +kernel
theorem dX3_beginTurn_10 : decode cX3_beginTurn 10 = .ok (.dup, 1) := by decide +kernel
theorem dX3_beginTurn_11 : decode cX3_beginTurn 11 = .ok (.getfield 43, 3) := by decide +kernel
theorem dX3_beginTurn_14 : decode cX3_beginTurn 14 = .ok (.iconst 1, 1) := by decide +kernel
theorem dX3_beginTurn_15 : decode cX3_beginTurn 15 = .ok (.iadd, 1) := by decide +kernel
theorem dX3_beginTurn_16 : decode cX3_beginTurn 16 = .ok (.putfield 43, 3) := by decide +kernel
theorem dX3_beginTurn_19 : decode cX3_beginTurn 19 = .ok (.aload_n 1, 1) := by decide +kernel
theorem dX3_beginTurn_20 : decode cX3_beginTurn 20 = .ok (.invokevirtual 88, 3) := by decide +kernel
theorem dX3_beginTurn_23 : decode cX3_beginTurn 23 = .ok (.aload_n 1, 1) := by decide +kernel
theorem dX3_beginTurn_24 : decode cX3_beginTurn 24 = .ok (.invokevirtual 111, 3) := by decide +kernel
theorem dX3_beginTurn_27 : decode cX3_beginTurn 27 = .ok (.aload_n 1, 1) := by decide +kernel
theorem dX3_beginTurn_28 : decode cX3_beginTurn 28 = .ok (.invokevirtual 108, 3) := by decide +kernel
theorem dX3_beginTurn_31 : decode cX3_beginTurn 31 = .ok (.ifCond .ne 15, 3) := by decide +kernel
theorem dX3_beginTurn_34 : decode cX3_beginTurn 34 = .ok (.aload_n 1, 1) := by decide +kernel
theorem dX3_beginTurn_35 : decode cX3_beginTurn 35 = .ok (.iconst 0, 1) := by decide +kernel
theorem dX3_beginTurn_36 : decode cX3_beginTurn 36 = .ok (.invokevirtual 114, 3) := by decide +kernel
theorem dX3_beginTurn_39 : decode cX3_beginTurn 39 = .ok (.ifCond .ne 7, 3) := by decide +kernel
theorem dX3_beginTurn_42 : decode cX3_beginTurn 42 = .ok (.iconst 1, 1) := by decide +kernel
theorem dX3_beginTurn_43 : decode cX3_beginTurn 43 = .ok (.goto 4, 3) := by decide +kernel
theorem dX3_beginTurn_46 : decode cX3_beginTurn 46 = .ok (.iconst 0, 1) := by decide +kernel
theorem dX3_beginTurn_47 : decode cX3_beginTurn 47 = .ok (.ireturn, 1) := by decide +kernel
theorem dX3_endTurn_0 : decode cX3_endTurn 0 = .ok (.iconst 0, 1) := by decide +kernel
theorem dX3_endTurn_1 : decode cX3_endTurn 1 = .ok (.istore_n 1, 1) := by decide +kernel
theorem dX3_endTurn_2 : decode cX3_endTurn 2 = .ok (.iload_n 1, 1) := by decide +kernel
theorem dX3_endTurn_3 : decode cX3_endTurn 3 = .ok (.sipush 1000, 3) := by decide +kernel
theorem dX3_endTurn_6 : decode cX3_endTurn 6 = .ok (.if_icmp .ge 52, 3) := by decide +kernel
theorem dX3_endTurn_9 : decode cX3_endTurn 9 = .ok (.aload_n 0, 1) := by decide +kernel
theorem dX3_endTurn_10 : decode cX3_endTurn 10 = .ok (.getfield 40, 3) := by decide +kernel
theorem dX3_endTurn_13 : decode cX3_endTurn 13 = .ok (.iconst (-1), 1) := by decide +kernel
theorem dX3_endTurn_14 : decode cX3_endTurn 14 = .ok (.if_icmp .eq 44, 3) := by decide +kernel
theorem dX3_endTurn_17 : decode cX3_endTurn 17 = .ok (.aload_n 0, 1) := by decide +kernel
theorem dX3_endTurn_18 : decode cX3_endTurn 18 = .ok (.aload_n 0, 1) := by decide +kernel
theorem dX3_endTurn_19 : decode cX3_endTurn 19 = .ok (.getfield 40, 3) := by decide +kernel
theorem dX3_endTurn_22 : decode cX3_endTurn 22 = .ok (.invokevirtual 59, 3) := by decide +kernel
theorem dX3_endTurn_25 : decode cX3_endTurn 25 = .ok (.invokevirtual 117, 3) := by decide +kernel
theorem dX3_endTurn_28 : decode cX3_endTurn 28 = .ok (.aload_n 0, 1) := by decide +kernel
theorem dX3_endTurn_29 : decode cX3_endTurn 29 = .ok (.aload_n 0, 1) := by decide +kernel
theorem dX3_endTurn_30 : decode cX3_endTurn 30 = .ok (.invokevirtual 120, 3) := by decide +kernel
theorem dX3_endTurn_33 : decode cX3_endTurn 33 = .ok (.putfield 40, 3) := by decide +kernel
theorem dX3_endTurn_36 : decode cX3_endTurn 36 = .ok (.aload_n 0, 1) := by decide +kernel
theorem dX3_endTurn_37 : decode cX3_endTurn 37 = .ok (.getfield 40, 3) := by decide +kernel
theorem dX3_endTurn_40 : decode cX3_endTurn 40 = .ok (.iconst (-1), 1) := by decide +kernel
theorem dX3_endTurn_41 : decode cX3_endTurn 41 = .ok (.if_icmp .eq 11, 3) := by decide +kernel
theorem dX3_endTurn_44 : decode cX3_endTurn 44 = .ok (.aload_n 0, 1) := by decide +kernel
theorem dX3_endTurn_45 : decode cX3_endTurn 45 = .ok (.invokevirtual 97, 3) := by decide +kernel
theorem dX3_endTurn_48 : decode cX3_endTurn 48 = .ok (.ifCond .eq 4, 3) := by decide +kernel
theorem dX3_endTurn_51 : decode cX3_endTurn 51 = .ok (.return_, 1) := by decide +kernel
theorem dX3_endTurn_52 : decode cX3_endTurn 52 = .ok (.iinc 1 1, 3) := by decide +kernel
theorem dX3_endTurn_55 : decode cX3_endTurn 55 = .ok (.goto (-53), 3) := by decide +kernel
theorem dX3_endTurn_58 : decode cX3_endTurn 58 = .ok (.return_, 1) := by decide +kernel
theorem dX3_nextTurn_0 : decode cX3_nextTurn 0 = .ok (.aload_n 0, 1) := by decide +kernel
theorem dX3_nextTurn_1 : decode cX3_nextTurn 1 = .ok (.aload_n 0, 1) := by decide +kernel
theorem dX3_nextTurn_2 : decode cX3_nextTurn 2 = .ok (.getfield 25, 3) := by decide +kernel
theorem dX3_nextTurn_5 : decode cX3_nextTurn 5 = .ok (.aload_n 0, 1) := by decide +kernel
theorem dX3_nextTurn_6 : decode cX3_nextTurn 6 = .ok (.getfield 40, 3) := by decide +kernel
theorem dX3_nextTurn_9 : decode cX3_nextTurn 9 = .ok (.invokevirtual 124, 3) := by decide +kernel
theorem dX3_nextTurn_12 : decode cX3_nextTurn 12 = .ok (.iconst 1, 1) := by decide +kernel
theorem dX3_nextTurn_13 : decode cX3_nextTurn 13 = .ok (.iadd, 1) := by decide +kernel
theorem dX3_nextTurn_14 : decode cX3_nextTurn 14 = .ok (.invokevirtual 94, 3) := by decide +kernel
theorem dX3_nextTurn_17 : decode cX3_nextTurn 17 = .ok (.istore_n 1, 1) := by decide +kernel
theorem dX3_nextTurn_18 : decode cX3_nextTurn 18 = .ok (.iload_n 1, 1) := by decide +kernel
theorem dX3_nextTurn_19 : decode cX3_nextTurn 19 = .ok (.iconst (-1), 1) := by decide +kernel
theorem dX3_nextTurn_20 : decode cX3_nextTurn 20 = .ok (.if_icmp .ne 17, 3) := by decide +kernel
theorem dX3_nextTurn_23 : decode cX3_nextTurn 23 = .ok (.aload_n 0, 1) := by decide +kernel
theorem dX3_nextTurn_24 : decode cX3_nextTurn 24 = .ok (.iconst 0, 1) := by decide +kernel
theorem dX3_nextTurn_25 : decode cX3_nextTurn 25 = .ok (.invokevirtual 127, 3) := by decide +kernel
theorem dX3_nextTurn_28 : decode cX3_nextTurn 28 = .ok (.aload_n 0, 1) := by decide +kernel
theorem dX3_nextTurn_29 : decode cX3_nextTurn 29 = .ok (.iconst 1, 1) := by decide +kernel
theorem dX3_nextTurn_30 : decode cX3_nextTurn 30 = .ok (.invokevirtual 127, 3) := by decide +kernel
theorem dX3_nextTurn_33 : decode cX3_nextTurn 33 = .ok (.iadd, 1) := by decide +kernel
theorem dX3_nextTurn_34 : decode cX3_nextTurn 34 = .ok (.ifCond .ne 5, 3) := by decide +kernel
theorem dX3_nextTurn_37 : decode cX3_nextTurn 37 = .ok (.iload_n 1, 1) := by decide +kernel
theorem dX3_nextTurn_38 : decode cX3_nextTurn 38 = .ok (.ireturn, 1) := by decide +kernel
theorem dX3_nextTurn_39 : decode cX3_nextTurn 39 = .ok (.aload_n 0, 1) := by decide +kernel
theorem dX3_nextTurn_40 : decode cX3_nextTurn 40 = .ok (.dup, 1) := by decide +kernel
theorem dX3_nextTurn_41 : decode cX3_nextTurn 41 = .ok (.getfield 37, 3) := by decide +kernel
theorem dX3_nextTurn_44 : decode cX3_nextTurn 44 = .ok (.iconst 1, 1) := by decide +kernel
theorem dX3_nextTurn_45 : decode cX3_nextTurn 45 = .ok (.iadd, 1) := by decide +kernel
theorem dX3_nextTurn_46 : decode cX3_nextTurn 46 = .ok (.putfield 37, 3) := by decide +kernel
theorem dX3_nextTurn_49 : decode cX3_nextTurn 49 = .ok (.aload_n 0, 1) := by decide +kernel
theorem dX3_nextTurn_50 : decode cX3_nextTurn 50 = .ok (.invokevirtual 91, 3) := by decide +kernel
theorem dX3_nextTurn_53 : decode cX3_nextTurn 53 = .ok (.aload_n 0, 1) := by decide +kernel
theorem dX3_nextTurn_54 : decode cX3_nextTurn 54 = .ok (.iconst 0, 1) := by decide +kernel
theorem dX3_nextTurn_55 : decode cX3_nextTurn 55 = .ok (.invokevirtual 94, 3) := by decide +kernel
theorem dX3_nextTurn_58 : decode cX3_nextTurn 58 = .ok (.ireturn, 1) := by decide +kernel
theorem dX3_delayTurn_0 : decode cX3_delayTurn 0 = .ok (.aload_n 0, 1) := by decide +kernel
theorem dX3_delayTurn_1 : decode cX3_delayTurn 1 = .ok (.aload_n 0, 1) := by decide +kernel
theorem dX3_delayTurn_2 : decode cX3_delayTurn 2 = .ok (.getfield 40, 3) := by decide +kernel
theorem dX3_delayTurn_5 : decode cX3_delayTurn 5 = .ok (.invokevirtual 59, 3) := by decide +kernel
theorem dX3_delayTurn_8 : decode cX3_delayTurn 8 = .ok (.iconst 1, 1) := by decide +kernel
theorem dX3_delayTurn_9 : decode cX3_delayTurn 9 = .ok (.putfield 104, 3) := by decide +kernel
theorem dX3_delayTurn_12 : decode cX3_delayTurn 12 = .ok (.aload_n 0, 1) := by decide +kernel
theorem dX3_delayTurn_13 : decode cX3_delayTurn 13 = .ok (.invokevirtual 101, 3) := by decide +kernel
theorem dX3_delayTurn_16 : decode cX3_delayTurn 16 = .ok (.return_, 1) := by decide +kernel
theorem dX3_canBeLetIn_0 : decode cX3_canBeLetIn 0 = .ok (.aload_n 0, 1) := by decide +kernel
theorem dX3_canBeLetIn_1 : decode cX3_canBeLetIn 1 = .ok (.getfield 40, 3) := by decide +kernel
theorem dX3_canBeLetIn_4 : decode cX3_canBeLetIn 4 = .ok (.iconst (-1), 1) := by decide +kernel
theorem dX3_canBeLetIn_5 : decode cX3_canBeLetIn 5 = .ok (.if_icmp .eq 29, 3) := by decide +kernel
theorem dX3_canBeLetIn_8 : decode cX3_canBeLetIn 8 = .ok (.aload_n 0, 1) := by decide +kernel
theorem dX3_canBeLetIn_9 : decode cX3_canBeLetIn 9 = .ok (.iload_n 1, 1) := by decide +kernel
theorem dX3_canBeLetIn_10 : decode cX3_canBeLetIn 10 = .ok (.invokevirtual 59, 3) := by decide +kernel
theorem dX3_canBeLetIn_13 : decode cX3_canBeLetIn 13 = .ok (.getfield 104, 3) := by decide +kernel
theorem dX3_canBeLetIn_16 : decode cX3_canBeLetIn 16 = .ok (.ifCond .eq 18, 3) := by decide +kernel
theorem dX3_canBeLetIn_19 : decode cX3_canBeLetIn 19 = .ok (.aload_n 0, 1) := by decide +kernel
theorem dX3_canBeLetIn_20 : decode cX3_canBeLetIn 20 = .ok (.iload_n 1, 1) := by decide +kernel
theorem dX3_canBeLetIn_21 : decode cX3_canBeLetIn 21 = .ok (.invokevirtual 59, 3) := by decide +kernel
theorem dX3_canBeLetIn_24 : decode cX3_canBeLetIn 24 = .ok (.invokevirtual 108, 3) := by decide +kernel
theorem dX3_canBeLetIn_27 : decode cX3_canBeLetIn 27 = .ok (.ifCond .ne 7, 3) := by decide +kernel
theorem dX3_canBeLetIn_30 : decode cX3_canBeLetIn 30 = .ok (.iconst 1, 1) := by decide +kernel
theorem dX3_canBeLetIn_31 : decode cX3_canBeLetIn 31 = .ok (.goto 4, 3) := by decide +kernel
theorem dX3_canBeLetIn_34 : decode cX3_canBeLetIn 34 = .ok (.iconst 0, 1) := by decide +kernel
theorem dX3_canBeLetIn_35 : decode cX3_canBeLetIn 35 = .ok (.ireturn, 1) := by decide +kernel
theorem dX3_letIn_0 : decode cX3_letIn 0 = .ok (.aload_n 0, 1) := by decide +kernel
theorem dX3_letIn_1 : decode cX3_letIn 1 = .ok (.iload_n 1, 1) := by decide +kernel
theorem dX3_letIn_2 : decode cX3_letIn 2 = .ok (.invokevirtual 59, 3) := by decide +kernel
theorem dX3_letIn_5 : decode cX3_letIn 5 = .ok (.astore_n 2, 1) := by decide +kernel
theorem dX3_letIn_6 : decode cX3_letIn 6 = .ok (.aload_n 0, 1) := by decide +kernel
theorem dX3_letIn_7 : decode cX3_letIn 7 = .ok (.getfield 25, 3) := by decide +kernel
theorem dX3_letIn_10 : decode cX3_letIn 10 = .ok (.iload_n 1, 1) := by decide +kernel
theorem dX3_letIn_11 : decode cX3_letIn 11 = .ok (.aload_n 0, 1) := by decide +kernel
theorem dX3_letIn_12 : decode cX3_letIn 12 = .ok (.getfield 40, 3) := by decide +kernel
theorem dX3_letIn_15 : decode cX3_letIn 15 = .ok (.invokevirtual 130, 3) := by decide +kernel
theorem dX3_letIn_18 : decode cX3_letIn 18 = .ok (.aload_n 2, 1) := by decide +kernel
theorem dX3_letIn_19 : decode cX3_letIn 19 = .ok (.aload_n 0, 1) := by decide +kernel
theorem dX3_letIn_20 : decode cX3_letIn 20 = .ok (.aload_n 0, 1) := by decide +kernel
theorem dX3_letIn_21 : decode cX3_letIn 21 = .ok (.getfield 40, 3) := by decide +kernel
theorem dX3_letIn_24 : decode cX3_letIn 24 = .ok (.invokevirtual 59, 3) := by decide +kernel
theorem dX3_letIn_27 : decode cX3_letIn 27 = .ok (.getfield 74, 3) := by decide +kernel
theorem dX3_letIn_30 : decode cX3_letIn 30 = .ok (.putfield 74, 3) := by decide +kernel
theorem dX3_letIn_33 : decode cX3_letIn 33 = .ok (.aload_n 2, 1) := by decide +kernel
theorem dX3_letIn_34 : decode cX3_letIn 34 = .ok (.iconst 0, 1) := by decide +kernel
theorem dX3_letIn_35 : decode cX3_letIn 35 = .ok (.putfield 104, 3) := by decide +kernel
theorem dX3_letIn_38 : decode cX3_letIn 38 = .ok (.aload_n 2, 1) := by decide +kernel
theorem dX3_letIn_39 : decode cX3_letIn 39 = .ok (.getfield 74, 3) := by decide +kernel
theorem dX3_letIn_42 : decode cX3_letIn 42 = .ok (.ireturn, 1) := by decide +kernel
theorem dX3_readyAct_0 : decode cX3_readyAct 0 = .ok (.aload_n 0, 1) := by decide +kernel
theorem dX3_readyAct_1 : decode cX3_readyAct 1 = .ok (.aload_n 0, 1) := by decide +kernel
theorem dX3_readyAct_2 : decode cX3_readyAct 2 = .ok (.getfield 40, 3) := by decide +kernel
theorem dX3_readyAct_5 : decode cX3_readyAct 5 = .ok (.invokevirtual 59, 3) := by decide +kernel
theorem dX3_readyAct_8 : decode cX3_readyAct 8 = .ok (.astore 5, 2) := by decide +kernel
theorem dX3_readyAct_10 : decode cX3_readyAct 10 = .ok (.aload 5, 2) := by decide +kernel
theorem dX3_readyAct_12 : decode cX3_readyAct 12 = .ok (.iload_n 1, 1) := by decide +kernel
theorem dX3_readyAct_13 : decode cX3_readyAct 13 = .ok (.putfield 133, 3) := by decide +kernel
theorem dX3_readyAct_16 : decode cX3_readyAct 16 = .ok (.aload 5, 2) := by decide +kernel
theorem dX3_readyAct_18 : decode cX3_readyAct 18 = .ok (.iload_n 2, 1) := by decide +kernel
theorem dX3_readyAct_19 : decode cX3_readyAct 19 = .ok (.putfield 136, 3) := by decide +kernel
theorem dX3_readyAct_22 : decode cX3_readyAct 22 = .ok (.aload 5, 2) := by decide +kernel
theorem dX3_readyAct_24 : decode cX3_readyAct 24 = .ok (.iload_n 3, 1) := by decide +kernel
theorem dX3_readyAct_25 : decode cX3_readyAct 25 = .ok (.putfield 139, 3) := by decide +kernel
theorem dX3_readyAct_28 : decode cX3_readyAct 28 = .ok (.aload 5, 2) := by decide +kernel
theorem dX3_readyAct_30 : decode cX3_readyAct 30 = .ok (.iload 4, 2) := by decide +kernel
theorem dX3_readyAct_32 : decode cX3_readyAct 32 = .ok (.putfield 142, 3) := by decide +kernel
theorem dX3_readyAct_35 : decode cX3_readyAct 35 = .ok (.aload_n 0, 1) := by decide +kernel
theorem dX3_readyAct_36 : decode cX3_readyAct 36 = .ok (.invokevirtual 101, 3) := by decide +kernel
theorem dX3_readyAct_39 : decode cX3_readyAct 39 = .ok (.return_, 1) := by decide +kernel
theorem dX3_isPossible_0 : decode cX3_isPossible 0 = .ok (.aload_n 0, 1) := by decide +kernel
theorem dX3_isPossible_1 : decode cX3_isPossible 1 = .ok (.iload_n 1, 1) := by decide +kernel
theorem dX3_isPossible_2 : decode cX3_isPossible 2 = .ok (.invokevirtual 59, 3) := by decide +kernel
theorem dX3_isPossible_5 : decode cX3_isPossible 5 = .ok (.astore 4, 2) := by decide +kernel
theorem dX3_isPossible_7 : decode cX3_isPossible 7 = .ok (.aload 4, 2) := by decide +kernel
theorem dX3_isPossible_9 : decode cX3_isPossible 9 = .ok (.invokevirtual 108, 3) := by decide +kernel
theorem dX3_isPossible_12 : decode cX3_isPossible 12 = .ok (.ifCond .eq 5, 3) := by decide +kernel
theorem dX3_isPossible_15 : decode cX3_isPossible 15 = .ok (.iconst 0, 1) := by decide +kernel
theorem dX3_isPossible_16 : decode cX3_isPossible 16 = .ok (.ireturn, 1) := by decide +kernel
theorem dX3_isPossible_17 : decode cX3_isPossible 17 = .ok (.iload_n 2, 1) := by decide +kernel
theorem dX3_isPossible_18 : decode cX3_isPossible 18 = .ok (.iconst 1, 1) := by decide +kernel
theorem dX3_isPossible_19 : decode cX3_isPossible 19 = .ok (.if_icmp .ne 50, 3) := by decide +kernel
theorem dX3_isPossible_22 : decode cX3_isPossible 22 = .ok (.aload 4, 2) := by decide +kernel
theorem dX3_isPossible_24 : decode cX3_isPossible 24 = .ok (.iconst 1, 1) := by decide +kernel
theorem dX3_isPossible_25 : decode cX3_isPossible 25 = .ok (.invokevirtual 114, 3) := by decide +kernel
theorem dX3_isPossible_28 : decode cX3_isPossible 28 = .ok (.ifCond .le 7, 3) := by decide +kernel
theorem dX3_isPossible_31 : decode cX3_isPossible 31 = .ok (.iconst 1, 1) := by decide +kernel
theorem dX3_isPossible_32 : decode cX3_isPossible 32 = .ok (.goto 4, 3) := by decide +kernel
theorem dX3_isPossible_35 : decode cX3_isPossible 35 = .ok (.iconst 3, 1) := by decide +kernel
theorem dX3_isPossible_36 : decode cX3_isPossible 36 = .ok (.istore 5, 2) := by decide +kernel
theorem dX3_isPossible_38 : decode cX3_isPossible 38 = .ok (.iload_n 3, 1) := by decide +kernel
theorem dX3_isPossible_39 : decode cX3_isPossible 39 = .ok (.ifCond .lt 28, 3) := by decide +kernel
theorem dX3_isPossible_42 : decode cX3_isPossible 42 = .ok (.iload_n 3, 1) := by decide +kernel
theorem dX3_isPossible_43 : decode cX3_isPossible 43 = .ok (.bipush 9, 2) := by decide +kernel
theorem dX3_isPossible_45 : decode cX3_isPossible 45 = .ok (.if_icmp .gt 22, 3) := by decide +kernel
theorem dX3_isPossible_48 : decode cX3_isPossible 48 = .ok (.iload_n 3, 1) := by decide +kernel
theorem dX3_isPossible_49 : decode cX3_isPossible 49 = .ok (.aload 4, 2) := by decide +kernel
theorem dX3_isPossible_51 : decode cX3_isPossible 51 = .ok (.getfield 145, 3) := by decide +kernel
theorem dX3_isPossible_54 : decode cX3_isPossible 54 = .ok (.isub, 1) := by decide +kernel
theorem dX3_isPossible_55 : decode cX3_isPossible 55 = .ok (.invokestatic 148, 3) := by decide +kernel
theorem dX3_isPossible_58 : decode cX3_isPossible 58 = .ok (.iload 5, 2) := by decide +kernel
theorem dX3_isPossible_60 : decode cX3_isPossible 60 = .ok (.if_icmp .gt 7, 3) := by decide +kernel
theorem dX3_isPossible_63 : decode cX3_isPossible 63 = .ok (.iconst 1, 1) := by decide +kernel
theorem dX3_isPossible_64 : decode cX3_isPossible 64 = .ok (.goto 4, 3) := by decide +kernel
theorem dX3_isPossible_67 : decode cX3_isPossible 67 = .ok (.iconst 0, 1) := by decide +kernel
theorem dX3_isPossible_68 : decode cX3_isPossible 68 = .ok (.ireturn, 1) := by decide +kernel
theorem dX3_isPossible_69 : decode cX3_isPossible 69 = .ok (.aload_n 0, 1) := by decide +kernel
theorem dX3_isPossible_70 : decode cX3_isPossible 70 = .ok (.iload_n 3, 1) := by decide +kernel
theorem dX3_isPossible_71 : decode cX3_isPossible 71 = .ok (.invokevirtual 59, 3) := by decide +kernel
theorem dX3_isPossible_74 : decode cX3_isPossible 74 = .ok (.astore 5, 2) := by decide +kernel
theorem dX3_isPossible_76 : decode cX3_isPossible 76 = .ok (.aload 5, 2) := by decide +kernel
theorem dX3_isPossible_78 : decode cX3_isPossible 78 = .ok (.invokevirtual 108, 3) := by decide +kernel
theorem dX3_isPossible_81 : decode cX3_isPossible 81 = .ok (.ifCond .ne 8, 3) := by decide +kernel
theorem dX3_isPossible_84 : decode cX3_isPossible 84 = .ok (.iload_n 3, 1) := by decide +kernel
theorem dX3_isPossible_85 : decode cX3_isPossible 85 = .ok (.iload_n 1, 1) := by decide +kernel
theorem dX3_isPossible_86 : decode cX3_isPossible 86 = .ok (.if_icmp .ne 5, 3) := by decide +kernel
theorem dX3_isPossible_89 : decode cX3_isPossible 89 = .ok (.iconst 0, 1) := by decide +kernel
theorem dX3_isPossible_90 : decode cX3_isPossible 90 = .ok (.ireturn, 1) := by decide +kernel
theorem dX3_isPossible_91 : decode cX3_isPossible 91 = .ok (.aload 5, 2) := by decide +kernel
theorem dX3_isPossible_93 : decode cX3_isPossible 93 = .ok (.getfield 145, 3) := by decide +kernel
theorem dX3_isPossible_96 : decode cX3_isPossible 96 = .ok (.aload 4, 2) := by decide +kernel
theorem dX3_isPossible_98 : decode cX3_isPossible 98 = .ok (.getfield 145, 3) := by decide +kernel
theorem dX3_isPossible_101 : decode cX3_isPossible 101 = .ok (.isub, 1) := by decide +kernel
theorem dX3_isPossible_102 : decode cX3_isPossible 102 = .ok (.invokestatic 148, 3) := by decide +kernel
theorem dX3_isPossible_105 : decode cX3_isPossible 105 = .ok (.iconst 2, 1) := by decide +kernel
theorem dX3_isPossible_106 : decode cX3_isPossible 106 = .ok (.if_icmp .gt 7, 3) := by decide +kernel
theorem dX3_isPossible_109 : decode cX3_isPossible 109 = .ok (.iconst 1, 1) := by decide +kernel
theorem dX3_isPossible_110 : decode cX3_isPossible 110 = .ok (.goto 4, 3) := by decide +kernel
theorem dX3_isPossible_113 : decode cX3_isPossible 113 = .ok (.iconst 0, 1) := by decide +kernel
theorem dX3_isPossible_114 : decode cX3_isPossible 114 = .ok (.istore 6, 2) := by decide +kernel
theorem dX3_isPossible_116 : decode cX3_isPossible 116 = .ok (.iload_n 2, 1) := by decide +kernel
theorem dX3_isPossible_117 : decode cX3_isPossible 117 = .ok (.tableswitch 77 0 3 #[31, 77, 34, 58], 31) := by decide +kernel
theorem dX3_isPossible_148 : decode cX3_isPossible 148 = .ok (.iload 6, 2) := by decide +kernel
theorem dX3_isPossible_150 : decode cX3_isPossible 150 = .ok (.ireturn, 1) := by decide +kernel
theorem dX3_isPossible_151 : decode cX3_isPossible 151 = .ok (.iload 6, 2) := by decide +kernel
theorem dX3_isPossible_153 : decode cX3_isPossible 153 = .ok (.ifCond .eq 20, 3) := by decide +kernel
theorem dX3_isPossible_156 : decode cX3_isPossible 156 = .ok (.aload 5, 2) := by decide +kernel
theorem dX3_isPossible_158 : decode cX3_isPossible 158 = .ok (.getfield 63, 3) := by decide +kernel
theorem dX3_isPossible_161 : decode cX3_isPossible 161 = .ok (.aload 4, 2) := by decide +kernel
theorem dX3_isPossible_163 : decode cX3_isPossible 163 = .ok (.getfield 63, 3) := by decide +kernel
theorem dX3_isPossible_166 : decode cX3_isPossible 166 = .ok (.if_icmp .ne 7, 3) := by decide +kernel
theorem dX3_isPossible_169 : decode cX3_isPossible 169 = .ok (.iconst 1, 1) := by decide +kernel
theorem dX3_isPossible_170 : decode cX3_isPossible 170 = .ok (.goto 4, 3) := by decide +kernel
theorem dX3_isPossible_173 : decode cX3_isPossible 173 = .ok (.iconst 0, 1) := by decide +kernel
theorem dX3_isPossible_174 : decode cX3_isPossible 174 = .ok (.ireturn, 1) := by decide +kernel
theorem dX3_isPossible_175 : decode cX3_isPossible 175 = .ok (.aload 5, 2) := by decide +kernel
theorem dX3_isPossible_177 : decode cX3_isPossible 177 = .ok (.getfield 63, 3) := by decide +kernel
theorem dX3_isPossible_180 : decode cX3_isPossible 180 = .ok (.aload 4, 2) := by decide +kernel
theorem dX3_isPossible_182 : decode cX3_isPossible 182 = .ok (.getfield 63, 3) := by decide +kernel
theorem dX3_isPossible_185 : decode cX3_isPossible 185 = .ok (.if_icmp .eq 7, 3) := by decide +kernel
theorem dX3_isPossible_188 : decode cX3_isPossible 188 = .ok (.iconst 1, 1) := by decide +kernel
theorem dX3_isPossible_189 : decode cX3_isPossible 189 = .ok (.goto 4, 3) := by decide +kernel
theorem dX3_isPossible_192 : decode cX3_isPossible 192 = .ok (.iconst 0, 1) := by decide +kernel
theorem dX3_isPossible_193 : decode cX3_isPossible 193 = .ok (.ireturn, 1) := by decide +kernel
theorem dX3_isPossible_194 : decode cX3_isPossible 194 = .ok (.iconst 0, 1) := by decide +kernel
theorem dX3_isPossible_195 : decode cX3_isPossible 195 = .ok (.ireturn, 1) := by decide +kernel
theorem dX3_act_0 : decode cX3_act 0 = .ok (.aload_n 0, 1) := by decide +kernel
theorem dX3_act_1 : decode cX3_act 1 = .ok (.iload_n 1, 1) := by decide +kernel
theorem dX3_act_2 : decode cX3_act 2 = .ok (.invokevirtual 153, 3) := by decide +kernel
theorem dX3_act_5 : decode cX3_act 5 = .ok (.aload_n 0, 1) := by decide +kernel
theorem dX3_act_6 : decode cX3_act 6 = .ok (.aload_n 0, 1) := by decide +kernel
theorem dX3_act_7 : decode cX3_act 7 = .ok (.getfield 40, 3) := by decide +kernel
theorem dX3_act_10 : decode cX3_act 10 = .ok (.iload_n 1, 1) := by decide +kernel
theorem dX3_act_11 : decode cX3_act 11 = .ok (.iload_n 2, 1) := by decide +kernel
theorem dX3_act_12 : decode cX3_act 12 = .ok (.iload_n 3, 1) := by decide +kernel
theorem dX3_act_13 : decode cX3_act 13 = .ok (.iload 4, 2) := by decide +kernel
theorem dX3_act_15 : decode cX3_act 15 = .ok (.invokevirtual 156, 3) := by decide +kernel
theorem dX3_act_18 : decode cX3_act 18 = .ok (.istore 5, 2) := by decide +kernel
theorem dX3_act_20 : decode cX3_act 20 = .ok (.aload_n 0, 1) := by decide +kernel
theorem dX3_act_21 : decode cX3_act 21 = .ok (.invokevirtual 101, 3) := by decide +kernel
theorem dX3_act_24 : decode cX3_act 24 = .ok (.iload 5, 2) := by decide +kernel
theorem dX3_act_26 : decode cX3_act 26 = .ok (.ireturn, 1) := by decide +kernel
theorem dX3_attempt_0 : decode cX3_attempt 0 = .ok (.aload_n 0, 1) := by decide +kernel
theorem dX3_attempt_1 : decode cX3_attempt 1 = .ok (.iload_n 1, 1) := by decide +kernel
theorem dX3_attempt_2 : decode cX3_attempt 2 = .ok (.iload_n 2, 1) := by decide +kernel
theorem dX3_attempt_3 : decode cX3_attempt 3 = .ok (.iload_n 3, 1) := by decide +kernel
theorem dX3_attempt_4 : decode cX3_attempt 4 = .ok (.invokevirtual 160, 3) := by decide +kernel
theorem dX3_attempt_7 : decode cX3_attempt 7 = .ok (.ifCond .ne 15, 3) := by decide +kernel
theorem dX3_attempt_10 : decode cX3_attempt 10 = .ok (.aload_n 0, 1) := by decide +kernel
theorem dX3_attempt_11 : decode cX3_attempt 11 = .ok (.dup, 1) := by decide +kernel
theorem dX3_attempt_12 : decode cX3_attempt 12 = .ok (.getfield 49, 3) := by decide +kernel
theorem dX3_attempt_15 : decode cX3_attempt 15 = .ok (.iconst 1, 1) := by decide +kernel
theorem dX3_attempt_16 : decode cX3_attempt 16 = .ok (.iadd, 1) := by decide +kernel
theorem dX3_attempt_17 : decode cX3_attempt 17 = .ok (.putfield 49, 3) := by decide +kernel
theorem dX3_attempt_20 : decode cX3_attempt 20 = .ok (.iconst (-1), 1) := by decide +kernel
theorem dX3_attempt_21 : decode cX3_attempt 21 = .ok (.ireturn, 1) := by decide +kernel
theorem dX3_attempt_22 : decode cX3_attempt 22 = .ok (.aload_n 0, 1) := by decide +kernel
theorem dX3_attempt_23 : decode cX3_attempt 23 = .ok (.iload_n 1, 1) := by decide +kernel
theorem dX3_attempt_24 : decode cX3_attempt 24 = .ok (.invokevirtual 59, 3) := by decide +kernel
theorem dX3_attempt_27 : decode cX3_attempt 27 = .ok (.astore 6, 2) := by decide +kernel
theorem dX3_attempt_29 : decode cX3_attempt 29 = .ok (.aload_n 0, 1) := by decide +kernel
theorem dX3_attempt_30 : decode cX3_attempt 30 = .ok (.dup, 1) := by decide +kernel
theorem dX3_attempt_31 : decode cX3_attempt 31 = .ok (.getfield 46, 3) := by decide +kernel
theorem dX3_attempt_34 : decode cX3_attempt 34 = .ok (.iconst 1, 1) := by decide +kernel
theorem dX3_attempt_35 : decode cX3_attempt 35 = .ok (.iadd, 1) := by decide +kernel
theorem dX3_attempt_36 : decode cX3_attempt 36 = .ok (.putfield 46, 3) := by decide +kernel
theorem dX3_attempt_39 : decode cX3_attempt 39 = .ok (.aload 6, 2) := by decide +kernel
theorem dX3_attempt_41 : decode cX3_attempt 41 = .ok (.dup, 1) := by decide +kernel
theorem dX3_attempt_42 : decode cX3_attempt 42 = .ok (.getfield 164, 3) := by decide +kernel
theorem dX3_attempt_45 : decode cX3_attempt 45 = .ok (.iconst 1, 1) := by decide +kernel
theorem dX3_attempt_46 : decode cX3_attempt 46 = .ok (.iadd, 1) := by decide +kernel
theorem dX3_attempt_47 : decode cX3_attempt 47 = .ok (.putfield 164, 3) := by decide +kernel
theorem dX3_attempt_50 : decode cX3_attempt 50 = .ok (.iload_n 2, 1) := by decide +kernel
theorem dX3_attempt_51 : decode cX3_attempt 51 = .ok (.tableswitch 105 0 2 #[25, 67, 88], 25) := by decide +kernel
theorem dX3_attempt_76 : decode cX3_attempt 76 = .ok (.aload 6, 2) := by decide +kernel
theorem dX3_attempt_78 : decode cX3_attempt 78 = .ok (.aload_n 0, 1) := by decide +kernel
theorem dX3_attempt_79 : decode cX3_attempt 79 = .ok (.iload_n 3, 1) := by decide +kernel
theorem dX3_attempt_80 : decode cX3_attempt 80 = .ok (.invokevirtual 59, 3) := by decide +kernel
theorem dX3_attempt_83 : decode cX3_attempt 83 = .ok (.invokevirtual 165, 3) := by decide +kernel
theorem dX3_attempt_86 : decode cX3_attempt 86 = .ok (.istore 7, 2) := by decide +kernel
theorem dX3_attempt_88 : decode cX3_attempt 88 = .ok (.aload_n 0, 1) := by decide +kernel
theorem dX3_attempt_89 : decode cX3_attempt 89 = .ok (.iload_n 3, 1) := by decide +kernel
theorem dX3_attempt_90 : decode cX3_attempt 90 = .ok (.invokevirtual 59, 3) := by decide +kernel
theorem dX3_attempt_93 : decode cX3_attempt 93 = .ok (.dup, 1) := by decide +kernel
theorem dX3_attempt_94 : decode cX3_attempt 94 = .ok (.getfield 169, 3) := by decide +kernel
theorem dX3_attempt_97 : decode cX3_attempt 97 = .ok (.iload 7, 2) := by decide +kernel
theorem dX3_attempt_99 : decode cX3_attempt 99 = .ok (.isub, 1) := by decide +kernel
theorem dX3_attempt_100 : decode cX3_attempt 100 = .ok (.putfield 169, 3) := by decide +kernel
theorem dX3_attempt_103 : decode cX3_attempt 103 = .ok (.aload 6, 2) := by decide +kernel
theorem dX3_attempt_105 : decode cX3_attempt 105 = .ok (.dup, 1) := by decide +kernel
theorem dX3_attempt_106 : decode cX3_attempt 106 = .ok (.getfield 172, 3) := by decide +kernel
theorem dX3_attempt_109 : decode cX3_attempt 109 = .ok (.iload 7, 2) := by decide +kernel
theorem dX3_attempt_111 : decode cX3_attempt 111 = .ok (.iadd, 1) := by decide +kernel
theorem dX3_attempt_112 : decode cX3_attempt 112 = .ok (.putfield 172, 3) := by decide +kernel
theorem dX3_attempt_115 : decode cX3_attempt 115 = .ok (.iload 7, 2) := by decide +kernel
theorem dX3_attempt_117 : decode cX3_attempt 117 = .ok (.ireturn, 1) := by decide +kernel
theorem dX3_attempt_118 : decode cX3_attempt 118 = .ok (.iload_n 3, 1) := by decide +kernel
theorem dX3_attempt_119 : decode cX3_attempt 119 = .ok (.aload 6, 2) := by decide +kernel
theorem dX3_attempt_121 : decode cX3_attempt 121 = .ok (.getfield 145, 3) := by decide +kernel
theorem dX3_attempt_124 : decode cX3_attempt 124 = .ok (.isub, 1) := by decide +kernel
theorem dX3_attempt_125 : decode cX3_attempt 125 = .ok (.invokestatic 148, 3) := by decide +kernel
theorem dX3_attempt_128 : decode cX3_attempt 128 = .ok (.istore 8, 2) := by decide +kernel
theorem dX3_attempt_130 : decode cX3_attempt 130 = .ok (.aload 6, 2) := by decide +kernel
theorem dX3_attempt_132 : decode cX3_attempt 132 = .ok (.iload_n 3, 1) := by decide +kernel
theorem dX3_attempt_133 : decode cX3_attempt 133 = .ok (.putfield 145, 3) := by decide +kernel
theorem dX3_attempt_136 : decode cX3_attempt 136 = .ok (.iload 8, 2) := by decide +kernel
theorem dX3_attempt_138 : decode cX3_attempt 138 = .ok (.ireturn, 1) := by decide +kernel
theorem dX3_attempt_139 : decode cX3_attempt 139 = .ok (.aload_n 0, 1) := by decide +kernel
theorem dX3_attempt_140 : decode cX3_attempt 140 = .ok (.iload_n 3, 1) := by decide +kernel
theorem dX3_attempt_141 : decode cX3_attempt 141 = .ok (.invokevirtual 59, 3) := by decide +kernel
theorem dX3_attempt_144 : decode cX3_attempt 144 = .ok (.invokevirtual 175, 3) := by decide +kernel
theorem dX3_attempt_147 : decode cX3_attempt 147 = .ok (.aload_n 0, 1) := by decide +kernel
theorem dX3_attempt_148 : decode cX3_attempt 148 = .ok (.iload_n 3, 1) := by decide +kernel
theorem dX3_attempt_149 : decode cX3_attempt 149 = .ok (.invokevirtual 59, 3) := by decide +kernel
theorem dX3_attempt_152 : decode cX3_attempt 152 = .ok (.getfield 169, 3) := by decide +kernel
theorem dX3_attempt_155 : decode cX3_attempt 155 = .ok (.ireturn, 1) := by decide +kernel
theorem dX3_attempt_156 : decode cX3_attempt 156 = .ok (.aload_n 0, 1) := by decide +kernel
theorem dX3_attempt_157 : decode cX3_attempt 157 = .ok (.iload_n 3, 1) := by decide +kernel
theorem dX3_attempt_158 : decode cX3_attempt 158 = .ok (.invokevirtual 59, 3) := by decide +kernel
theorem dX3_attempt_161 : decode cX3_attempt 161 = .ok (.iload 4, 2) := by decide +kernel
theorem dX3_attempt_163 : decode cX3_attempt 163 = .ok (.iload 5, 2) := by decide +kernel
theorem dX3_attempt_165 : decode cX3_attempt 165 = .ok (.invokevirtual 178, 3) := by decide +kernel
theorem dX3_attempt_168 : decode cX3_attempt 168 = .ok (.ireturn, 1) := by decide +kernel
theorem dX3_isSetOff_0 : decode cX3_isSetOff 0 = .ok (.aload_n 1, 1) := by decide +kernel
theorem dX3_isSetOff_1 : decode cX3_isSetOff 1 = .ok (.invokevirtual 108, 3) := by decide +kernel
theorem dX3_isSetOff_4 : decode cX3_isSetOff 4 = .ok (.ifCond .ne 18, 3) := by decide +kernel
theorem dX3_isSetOff_7 : decode cX3_isSetOff 7 = .ok (.aload_n 1, 1) := by decide +kernel
theorem dX3_isSetOff_8 : decode cX3_isSetOff 8 = .ok (.invokevirtual 182, 3) := by decide +kernel
theorem dX3_isSetOff_11 : decode cX3_isSetOff 11 = .ok (.ifCond .eq 11, 3) := by decide +kernel
theorem dX3_isSetOff_14 : decode cX3_isSetOff 14 = .ok (.aload_n 1, 1) := by decide +kernel
theorem dX3_isSetOff_15 : decode cX3_isSetOff 15 = .ok (.getfield 142, 3) := by decide +kernel
theorem dX3_isSetOff_18 : decode cX3_isSetOff 18 = .ok (.iload_n 2, 1) := by decide +kernel
theorem dX3_isSetOff_19 : decode cX3_isSetOff 19 = .ok (.if_icmp .eq 5, 3) := by decide +kernel
theorem dX3_isSetOff_22 : decode cX3_isSetOff 22 = .ok (.iconst 0, 1) := by decide +kernel
theorem dX3_isSetOff_23 : decode cX3_isSetOff 23 = .ok (.ireturn, 1) := by decide +kernel
theorem dX3_isSetOff_24 : decode cX3_isSetOff 24 = .ok (.aload_n 1, 1) := by decide +kernel
theorem dX3_isSetOff_25 : decode cX3_isSetOff 25 = .ok (.getfield 139, 3) := by decide +kernel
theorem dX3_isSetOff_28 : decode cX3_isSetOff 28 = .ok (.iconst (-1), 1) := by decide +kernel
theorem dX3_isSetOff_29 : decode cX3_isSetOff 29 = .ok (.if_icmp .ne 27, 3) := by decide +kernel
theorem dX3_isSetOff_32 : decode cX3_isSetOff 32 = .ok (.aload_n 1, 1) := by decide +kernel
theorem dX3_isSetOff_33 : decode cX3_isSetOff 33 = .ok (.getfield 63, 3) := by decide +kernel
theorem dX3_isSetOff_36 : decode cX3_isSetOff 36 = .ok (.aload_n 0, 1) := by decide +kernel
theorem dX3_isSetOff_37 : decode cX3_isSetOff 37 = .ok (.aload_n 0, 1) := by decide +kernel
theorem dX3_isSetOff_38 : decode cX3_isSetOff 38 = .ok (.getfield 40, 3) := by decide +kernel
theorem dX3_isSetOff_41 : decode cX3_isSetOff 41 = .ok (.invokevirtual 59, 3) := by decide +kernel
theorem dX3_isSetOff_44 : decode cX3_isSetOff 44 = .ok (.getfield 63, 3) := by decide +kernel
theorem dX3_isSetOff_47 : decode cX3_isSetOff 47 = .ok (.if_icmp .eq 7, 3) := by decide +kernel
theorem dX3_isSetOff_50 : decode cX3_isSetOff 50 = .ok (.iconst 1, 1) := by decide +kernel
theorem dX3_isSetOff_51 : decode cX3_isSetOff 51 = .ok (.goto 4, 3) := by decide +kernel
theorem dX3_isSetOff_54 : decode cX3_isSetOff 54 = .ok (.iconst 0, 1) := by decide +kernel
theorem dX3_isSetOff_55 : decode cX3_isSetOff 55 = .ok (.ireturn, 1) := by decide +kernel
theorem dX3_isSetOff_56 : decode cX3_isSetOff 56 = .ok (.aload_n 1, 1) := by decide +kernel
theorem dX3_isSetOff_57 : decode cX3_isSetOff 57 = .ok (.getfield 139, 3) := by decide +kernel
theorem dX3_isSetOff_60 : decode cX3_isSetOff 60 = .ok (.aload_n 0, 1) := by decide +kernel
theorem dX3_isSetOff_61 : decode cX3_isSetOff 61 = .ok (.getfield 40, 3) := by decide +kernel
theorem dX3_isSetOff_64 : decode cX3_isSetOff 64 = .ok (.if_icmp .ne 7, 3) := by decide +kernel
theorem dX3_isSetOff_67 : decode cX3_isSetOff 67 = .ok (.iconst 1, 1) := by decide +kernel
theorem dX3_isSetOff_68 : decode cX3_isSetOff 68 = .ok (.goto 4, 3) := by decide +kernel
theorem dX3_isSetOff_71 : decode cX3_isSetOff 71 = .ok (.iconst 0, 1) := by decide +kernel
theorem dX3_isSetOff_72 : decode cX3_isSetOff 72 = .ok (.ireturn, 1) := by decide +kernel
theorem dX3_numberSetOff_0 : decode cX3_numberSetOff 0 = .ok (.iconst 0, 1) := by decide +kernel
theorem dX3_numberSetOff_1 : decode cX3_numberSetOff 1 = .ok (.istore_n 2, 1) := by decide +kernel
theorem dX3_numberSetOff_2 : decode cX3_numberSetOff 2 = .ok (.iconst 0, 1) := by decide +kernel
theorem dX3_numberSetOff_3 : decode cX3_numberSetOff 3 = .ok (.istore_n 3, 1) := by decide +kernel
theorem dX3_numberSetOff_4 : decode cX3_numberSetOff 4 = .ok (.iload_n 3, 1) := by decide +kernel
theorem dX3_numberSetOff_5 : decode cX3_numberSetOff 5 = .ok (.aload_n 0, 1) := by decide +kernel
theorem dX3_numberSetOff_6 : decode cX3_numberSetOff 6 = .ok (.getfield 33, 3) := by decide +kernel
theorem dX3_numberSetOff_9 : decode cX3_numberSetOff 9 = .ok (.if_icmp .ge 25, 3) := by decide +kernel
theorem dX3_numberSetOff_12 : decode cX3_numberSetOff 12 = .ok (.aload_n 0, 1) := by decide +kernel
theorem dX3_numberSetOff_13 : decode cX3_numberSetOff 13 = .ok (.aload_n 0, 1) := by decide +kernel
theorem dX3_numberSetOff_14 : decode cX3_numberSetOff 14 = .ok (.iload_n 3, 1) := by decide +kernel
theorem dX3_numberSetOff_15 : decode cX3_numberSetOff 15 = .ok (.invokevirtual 59, 3) := by decide +kernel
theorem dX3_numberSetOff_18 : decode cX3_numberSetOff 18 = .ok (.iload_n 1, 1) := by decide +kernel
theorem dX3_numberSetOff_19 : decode cX3_numberSetOff 19 = .ok (.invokevirtual 185, 3) := by decide +kernel
theorem dX3_numberSetOff_22 : decode cX3_numberSetOff 22 = .ok (.ifCond .eq 6, 3) := by decide +kernel
theorem dX3_numberSetOff_25 : decode cX3_numberSetOff 25 = .ok (.iinc 2 1, 3) := by decide +kernel
theorem dX3_numberSetOff_28 : decode cX3_numberSetOff 28 = .ok (.iinc 3 1, 3) := by decide +kernel
theorem dX3_numberSetOff_31 : decode cX3_numberSetOff 31 = .ok (.goto (-27), 3) := by decide +kernel
theorem dX3_numberSetOff_34 : decode cX3_numberSetOff 34 = .ok (.iload_n 2, 1) := by decide +kernel
theorem dX3_numberSetOff_35 : decode cX3_numberSetOff 35 = .ok (.ireturn, 1) := by decide +kernel
theorem dX3_setOff_0 : decode cX3_setOff 0 = .ok (.iconst 0, 1) := by decide +kernel
theorem dX3_setOff_1 : decode cX3_setOff 1 = .ok (.istore_n 2, 1) := by decide +kernel
theorem dX3_setOff_2 : decode cX3_setOff 2 = .ok (.iconst 0, 1) := by decide +kernel
theorem dX3_setOff_3 : decode cX3_setOff 3 = .ok (.istore_n 3, 1) := by decide +kernel
theorem dX3_setOff_4 : decode cX3_setOff 4 = .ok (.iload_n 3, 1) := by decide +kernel
theorem dX3_setOff_5 : decode cX3_setOff 5 = .ok (.aload_n 0, 1) := by decide +kernel
theorem dX3_setOff_6 : decode cX3_setOff 6 = .ok (.getfield 25, 3) := by decide +kernel
theorem dX3_setOff_9 : decode cX3_setOff 9 = .ok (.getfield 77, 3) := by decide +kernel
theorem dX3_setOff_12 : decode cX3_setOff 12 = .ok (.if_icmp .ge 53, 3) := by decide +kernel
theorem dX3_setOff_15 : decode cX3_setOff 15 = .ok (.aload_n 0, 1) := by decide +kernel
theorem dX3_setOff_16 : decode cX3_setOff 16 = .ok (.getfield 25, 3) := by decide +kernel
theorem dX3_setOff_19 : decode cX3_setOff 19 = .ok (.iload_n 3, 1) := by decide +kernel
theorem dX3_setOff_20 : decode cX3_setOff 20 = .ok (.invokevirtual 80, 3) := by decide +kernel
theorem dX3_setOff_23 : decode cX3_setOff 23 = .ok (.istore 4, 2) := by decide +kernel
theorem dX3_setOff_25 : decode cX3_setOff 25 = .ok (.aload_n 0, 1) := by decide +kernel
theorem dX3_setOff_26 : decode cX3_setOff 26 = .ok (.aload_n 0, 1) := by decide +kernel
theorem dX3_setOff_27 : decode cX3_setOff 27 = .ok (.iload 4, 2) := by decide +kernel
theorem dX3_setOff_29 : decode cX3_setOff 29 = .ok (.invokevirtual 59, 3) := by decide +kernel
theorem dX3_setOff_32 : decode cX3_setOff 32 = .ok (.iload_n 1, 1) := by decide +kernel
theorem dX3_setOff_33 : decode cX3_setOff 33 = .ok (.invokevirtual 185, 3) := by decide +kernel
theorem dX3_setOff_36 : decode cX3_setOff 36 = .ok (.ifCond .eq 23, 3) := by decide +kernel
theorem dX3_setOff_39 : decode cX3_setOff 39 = .ok (.iload_n 2, 1) := by decide +kernel
theorem dX3_setOff_40 : decode cX3_setOff 40 = .ok (.aload_n 0, 1) := by decide +kernel
theorem dX3_setOff_41 : decode cX3_setOff 41 = .ok (.getfield 29, 3) := by decide +kernel
theorem dX3_setOff_44 : decode cX3_setOff 44 = .ok (.arraylength, 1) := by decide +kernel
theorem dX3_setOff_45 : decode cX3_setOff 45 = .ok (.if_icmp .ge 14, 3) := by decide +kernel
theorem dX3_setOff_48 : decode cX3_setOff 48 = .ok (.aload_n 0, 1) := by decide +kernel
theorem dX3_setOff_49 : decode cX3_setOff 49 = .ok (.getfield 29, 3) := by decide +kernel
theorem dX3_setOff_52 : decode cX3_setOff 52 = .ok (.iload_n 2, 1) := by decide +kernel
theorem dX3_setOff_53 : decode cX3_setOff 53 = .ok (.iload 4, 2) := by decide +kernel
theorem dX3_setOff_55 : decode cX3_setOff 55 = .ok (.iastore, 1) := by decide +kernel
theorem dX3_setOff_56 : decode cX3_setOff 56 = .ok (.iinc 2 1, 3) := by decide +kernel
theorem dX3_setOff_59 : decode cX3_setOff 59 = .ok (.iinc 3 1, 3) := by decide +kernel
theorem dX3_setOff_62 : decode cX3_setOff 62 = .ok (.goto (-58), 3) := by decide +kernel
theorem dX3_setOff_65 : decode cX3_setOff 65 = .ok (.iconst 0, 1) := by decide +kernel
theorem dX3_setOff_66 : decode cX3_setOff 66 = .ok (.istore_n 3, 1) := by decide +kernel
theorem dX3_setOff_67 : decode cX3_setOff 67 = .ok (.iload_n 3, 1) := by decide +kernel
theorem dX3_setOff_68 : decode cX3_setOff 68 = .ok (.iload_n 2, 1) := by decide +kernel
theorem dX3_setOff_69 : decode cX3_setOff 69 = .ok (.if_icmp .ge 113, 3) := by decide +kernel
theorem dX3_setOff_72 : decode cX3_setOff 72 = .ok (.iload_n 3, 1) := by decide +kernel
theorem dX3_setOff_73 : decode cX3_setOff 73 = .ok (.aload_n 0, 1) := by decide +kernel
theorem dX3_setOff_74 : decode cX3_setOff 74 = .ok (.getfield 29, 3) := by decide +kernel
theorem dX3_setOff_77 : decode cX3_setOff 77 = .ok (.arraylength, 1) := by decide +kernel
theorem dX3_setOff_78 : decode cX3_setOff 78 = .ok (.if_icmp .ge 104, 3) := by decide +kernel
theorem dX3_setOff_81 : decode cX3_setOff 81 = .ok (.aload_n 0, 1) := by decide +kernel
theorem dX3_setOff_82 : decode cX3_setOff 82 = .ok (.aload_n 0, 1) := by decide +kernel
theorem dX3_setOff_83 : decode cX3_setOff 83 = .ok (.getfield 29, 3) := by decide +kernel
theorem dX3_setOff_86 : decode cX3_setOff 86 = .ok (.iload_n 3, 1) := by decide +kernel
theorem dX3_setOff_87 : decode cX3_setOff 87 = .ok (.iaload, 1) := by decide +kernel
theorem dX3_setOff_88 : decode cX3_setOff 88 = .ok (.invokevirtual 59, 3) := by decide +kernel
theorem dX3_setOff_91 : decode cX3_setOff 91 = .ok (.astore 4, 2) := by decide +kernel
theorem dX3_setOff_93 : decode cX3_setOff 93 = .ok (.aload 4, 2) := by decide +kernel
theorem dX3_setOff_95 : decode cX3_setOff 95 = .ok (.iconst 0, 1) := by decide +kernel
theorem dX3_setOff_96 : decode cX3_setOff 96 = .ok (.invokevirtual 114, 3) := by decide +kernel
theorem dX3_setOff_99 : decode cX3_setOff 99 = .ok (.ifCond .le 16, 3) := by decide +kernel
theorem dX3_setOff_102 : decode cX3_setOff 102 = .ok (.aload_n 0, 1) := by decide +kernel
theorem dX3_setOff_103 : decode cX3_setOff 103 = .ok (.dup, 1) := by decide +kernel
theorem dX3_setOff_104 : decode cX3_setOff 104 = .ok (.getfield 49, 3) := by decide +kernel
theorem dX3_setOff_107 : decode cX3_setOff 107 = .ok (.iconst 1, 1) := by decide +kernel
theorem dX3_setOff_108 : decode cX3_setOff 108 = .ok (.iadd, 1) := by decide +kernel
theorem dX3_setOff_109 : decode cX3_setOff 109 = .ok (.putfield 49, 3) := by decide +kernel
theorem dX3_setOff_112 : decode cX3_setOff 112 = .ok (.goto 26, 3) := by decide +kernel
theorem dX3_setOff_115 : decode cX3_setOff 115 = .ok (.aload_n 0, 1) := by decide +kernel
theorem dX3_setOff_116 : decode cX3_setOff 116 = .ok (.aload_n 0, 1) := by decide +kernel
theorem dX3_setOff_117 : decode cX3_setOff 117 = .ok (.getfield 29, 3) := by decide +kernel
theorem dX3_setOff_120 : decode cX3_setOff 120 = .ok (.iload_n 3, 1) := by decide +kernel
theorem dX3_setOff_121 : decode cX3_setOff 121 = .ok (.iaload, 1) := by decide +kernel
theorem dX3_setOff_122 : decode cX3_setOff 122 = .ok (.aload 4, 2) := by decide +kernel
theorem dX3_setOff_124 : decode cX3_setOff 124 = .ok (.getfield 133, 3) := by decide +kernel
theorem dX3_setOff_127 : decode cX3_setOff 127 = .ok (.aload 4, 2) := by decide +kernel
theorem dX3_setOff_129 : decode cX3_setOff 129 = .ok (.getfield 136, 3) := by decide +kernel
theorem dX3_setOff_132 : decode cX3_setOff 132 = .ok (.iconst (-1), 1) := by decide +kernel
theorem dX3_setOff_133 : decode cX3_setOff 133 = .ok (.iconst 0, 1) := by decide +kernel
theorem dX3_setOff_134 : decode cX3_setOff 134 = .ok (.invokevirtual 156, 3) := by decide +kernel
theorem dX3_setOff_137 : decode cX3_setOff 137 = .ok (.pop, 1) := by decide +kernel
theorem dX3_setOff_138 : decode cX3_setOff 138 = .ok (.aload 4, 2) := by decide +kernel
theorem dX3_setOff_140 : decode cX3_setOff 140 = .ok (.invokevirtual 88, 3) := by decide +kernel
theorem dX3_setOff_143 : decode cX3_setOff 143 = .ok (.aload 4, 2) := by decide +kernel
theorem dX3_setOff_145 : decode cX3_setOff 145 = .ok (.aload_n 0, 1) := by decide +kernel
theorem dX3_setOff_146 : decode cX3_setOff 146 = .ok (.aload_n 0, 1) := by decide +kernel
theorem dX3_setOff_147 : decode cX3_setOff 147 = .ok (.getfield 40, 3) := by decide +kernel
theorem dX3_setOff_150 : decode cX3_setOff 150 = .ok (.invokevirtual 59, 3) := by decide +kernel
theorem dX3_setOff_153 : decode cX3_setOff 153 = .ok (.getfield 74, 3) := by decide +kernel
theorem dX3_setOff_156 : decode cX3_setOff 156 = .ok (.putfield 74, 3) := by decide +kernel
theorem dX3_setOff_159 : decode cX3_setOff 159 = .ok (.aload_n 0, 1) := by decide +kernel
theorem dX3_setOff_160 : decode cX3_setOff 160 = .ok (.getfield 25, 3) := by decide +kernel
theorem dX3_setOff_163 : decode cX3_setOff 163 = .ok (.aload_n 0, 1) := by decide +kernel
theorem dX3_setOff_164 : decode cX3_setOff 164 = .ok (.getfield 29, 3) := by decide +kernel
theorem dX3_setOff_167 : decode cX3_setOff 167 = .ok (.iload_n 3, 1) := by decide +kernel
theorem dX3_setOff_168 : decode cX3_setOff 168 = .ok (.iaload, 1) := by decide +kernel
theorem dX3_setOff_169 : decode cX3_setOff 169 = .ok (.aload_n 0, 1) := by decide +kernel
theorem dX3_setOff_170 : decode cX3_setOff 170 = .ok (.getfield 40, 3) := by decide +kernel
theorem dX3_setOff_173 : decode cX3_setOff 173 = .ok (.invokevirtual 189, 3) := by decide +kernel
theorem dX3_setOff_176 : decode cX3_setOff 176 = .ok (.iinc 3 1, 3) := by decide +kernel
theorem dX3_setOff_179 : decode cX3_setOff 179 = .ok (.goto (-112), 3) := by decide +kernel
theorem dX3_setOff_182 : decode cX3_setOff 182 = .ok (.return_, 1) := by decide +kernel
theorem dX3_property_0 : decode cX3_property 0 = .ok (.aload_n 0, 1) := by decide +kernel
theorem dX3_property_1 : decode cX3_property 1 = .ok (.iload_n 1, 1) := by decide +kernel
theorem dX3_property_2 : decode cX3_property 2 = .ok (.invokevirtual 59, 3) := by decide +kernel
theorem dX3_property_5 : decode cX3_property 5 = .ok (.astore_n 3, 1) := by decide +kernel
theorem dX3_property_6 : decode cX3_property 6 = .ok (.iload_n 2, 1) := by decide +kernel
theorem dX3_property_7 : decode cX3_property 7 = .ok (.tableswitch 123 0 13 #[69, 74, 79, 84, 89, 94, 99, 108, 123, 123, 123, 123, 113, 118], 69) := by decide +kernel
theorem dX3_property_76 : decode cX3_property 76 = .ok (.aload_n 3, 1) := by decide +kernel
theorem dX3_property_77 : decode cX3_property 77 = .ok (.getfield 63, 3) := by decide +kernel
theorem dX3_property_80 : decode cX3_property 80 = .ok (.ireturn, 1) := by decide +kernel
theorem dX3_property_81 : decode cX3_property 81 = .ok (.aload_n 3, 1) := by decide +kernel
theorem dX3_property_82 : decode cX3_property 82 = .ok (.getfield 74, 3) := by decide +kernel
theorem dX3_property_85 : decode cX3_property 85 = .ok (.ireturn, 1) := by decide +kernel
theorem dX3_property_86 : decode cX3_property 86 = .ok (.aload_n 3, 1) := by decide +kernel
theorem dX3_property_87 : decode cX3_property 87 = .ok (.getfield 169, 3) := by decide +kernel
theorem dX3_property_90 : decode cX3_property 90 = .ok (.ireturn, 1) := by decide +kernel
theorem dX3_property_91 : decode cX3_property 91 = .ok (.aload_n 3, 1) := by decide +kernel
theorem dX3_property_92 : decode cX3_property 92 = .ok (.getfield 192, 3) := by decide +kernel
theorem dX3_property_95 : decode cX3_property 95 = .ok (.ireturn, 1) := by decide +kernel
theorem dX3_property_96 : decode cX3_property 96 = .ok (.aload_n 3, 1) := by decide +kernel
theorem dX3_property_97 : decode cX3_property 97 = .ok (.getfield 195, 3) := by decide +kernel
theorem dX3_property_100 : decode cX3_property 100 = .ok (.ireturn, 1) := by decide +kernel
theorem dX3_property_101 : decode cX3_property 101 = .ok (.aload_n 3, 1) := by decide +kernel
theorem dX3_property_102 : decode cX3_property 102 = .ok (.getfield 145, 3) := by decide +kernel
theorem dX3_property_105 : decode cX3_property 105 = .ok (.ireturn, 1) := by decide +kernel
theorem dX3_property_106 : decode cX3_property 106 = .ok (.aload_n 0, 1) := by decide +kernel
theorem dX3_property_107 : decode cX3_property 107 = .ok (.getfield 25, 3) := by decide +kernel
theorem dX3_property_110 : decode cX3_property 110 = .ok (.iload_n 1, 1) := by decide +kernel
theorem dX3_property_111 : decode cX3_property 111 = .ok (.invokevirtual 124, 3) := by decide +kernel
theorem dX3_property_114 : decode cX3_property 114 = .ok (.ireturn, 1) := by decide +kernel
theorem dX3_property_115 : decode cX3_property 115 = .ok (.aload_n 3, 1) := by decide +kernel
theorem dX3_property_116 : decode cX3_property 116 = .ok (.invokevirtual 198, 3) := by decide +kernel
theorem dX3_property_119 : decode cX3_property 119 = .ok (.ireturn, 1) := by decide +kernel
theorem dX3_property_120 : decode cX3_property 120 = .ok (.aload_n 3, 1) := by decide +kernel
theorem dX3_property_121 : decode cX3_property 121 = .ok (.getfield 164, 3) := by decide +kernel
theorem dX3_property_124 : decode cX3_property 124 = .ok (.ireturn, 1) := by decide +kernel
theorem dX3_property_125 : decode cX3_property 125 = .ok (.aload_n 3, 1) := by decide +kernel
theorem dX3_property_126 : decode cX3_property 126 = .ok (.getfield 172, 3) := by decide +kernel
theorem dX3_property_129 : decode cX3_property 129 = .ok (.ireturn, 1) := by decide +kernel
theorem dX3_property_130 : decode cX3_property 130 = .ok (.aload_n 3, 1) := by decide +kernel
theorem dX3_property_131 : decode cX3_property 131 = .ok (.iload_n 2, 1) := by decide +kernel
theorem dX3_property_132 : decode cX3_property 132 = .ok (.bipush 8, 2) := by decide +kernel
theorem dX3_property_134 : decode cX3_property 134 = .ok (.isub, 1) := by decide +kernel
theorem dX3_property_135 : decode cX3_property 135 = .ok (.invokevirtual 114, 3) := by decide +kernel
theorem dX3_property_138 : decode cX3_property 138 = .ok (.ireturn, 1) := by decide +kernel
theorem dX3_counted_0 : decode cX3_counted 0 = .ok (.iload_n 1, 1) := by decide +kernel
theorem dX3_counted_1 : decode cX3_counted 1 = .ok (.tableswitch 117 0 10 #[59, 64, 69, 74, 80, 86, 91, 96, 101, 106, 111], 59) := by decide +kernel
theorem dX3_counted_60 : decode cX3_counted 60 = .ok (.aload_n 0, 1) := by decide +kernel
theorem dX3_counted_61 : decode cX3_counted 61 = .ok (.getfield 33, 3) := by decide +kernel
theorem dX3_counted_64 : decode cX3_counted 64 = .ok (.ireturn, 1) := by decide +kernel
theorem dX3_counted_65 : decode cX3_counted 65 = .ok (.aload_n 0, 1) := by decide +kernel
theorem dX3_counted_66 : decode cX3_counted 66 = .ok (.getfield 37, 3) := by decide +kernel
theorem dX3_counted_69 : decode cX3_counted 69 = .ok (.ireturn, 1) := by decide +kernel
theorem dX3_counted_70 : decode cX3_counted 70 = .ok (.aload_n 0, 1) := by decide +kernel
theorem dX3_counted_71 : decode cX3_counted 71 = .ok (.getfield 40, 3) := by decide +kernel
theorem dX3_counted_74 : decode cX3_counted 74 = .ok (.ireturn, 1) := by decide +kernel
theorem dX3_counted_75 : decode cX3_counted 75 = .ok (.aload_n 0, 1) := by decide +kernel
theorem dX3_counted_76 : decode cX3_counted 76 = .ok (.iconst 0, 1) := by decide +kernel
theorem dX3_counted_77 : decode cX3_counted 77 = .ok (.invokevirtual 127, 3) := by decide +kernel
theorem dX3_counted_80 : decode cX3_counted 80 = .ok (.ireturn, 1) := by decide +kernel
theorem dX3_counted_81 : decode cX3_counted 81 = .ok (.aload_n 0, 1) := by decide +kernel
theorem dX3_counted_82 : decode cX3_counted 82 = .ok (.iconst 1, 1) := by decide +kernel
theorem dX3_counted_83 : decode cX3_counted 83 = .ok (.invokevirtual 127, 3) := by decide +kernel
theorem dX3_counted_86 : decode cX3_counted 86 = .ok (.ireturn, 1) := by decide +kernel
theorem dX3_counted_87 : decode cX3_counted 87 = .ok (.aload_n 0, 1) := by decide +kernel
theorem dX3_counted_88 : decode cX3_counted 88 = .ok (.invokevirtual 201, 3) := by decide +kernel
theorem dX3_counted_91 : decode cX3_counted 91 = .ok (.ireturn, 1) := by decide +kernel
theorem dX3_counted_92 : decode cX3_counted 92 = .ok (.aload_n 0, 1) := by decide +kernel
theorem dX3_counted_93 : decode cX3_counted 93 = .ok (.invokevirtual 204, 3) := by decide +kernel
theorem dX3_counted_96 : decode cX3_counted 96 = .ok (.ireturn, 1) := by decide +kernel
theorem dX3_counted_97 : decode cX3_counted 97 = .ok (.aload_n 0, 1) := by decide +kernel
theorem dX3_counted_98 : decode cX3_counted 98 = .ok (.getfield 46, 3) := by decide +kernel
theorem dX3_counted_101 : decode cX3_counted 101 = .ok (.ireturn, 1) := by decide +kernel
theorem dX3_counted_102 : decode cX3_counted 102 = .ok (.aload_n 0, 1) := by decide +kernel
theorem dX3_counted_103 : decode cX3_counted 103 = .ok (.getfield 49, 3) := by decide +kernel
theorem dX3_counted_106 : decode cX3_counted 106 = .ok (.ireturn, 1) := by decide +kernel
theorem dX3_counted_107 : decode cX3_counted 107 = .ok (.aload_n 0, 1) := by decide +kernel
theorem dX3_counted_108 : decode cX3_counted 108 = .ok (.getfield 43, 3) := by decide +kernel
theorem dX3_counted_111 : decode cX3_counted 111 = .ok (.ireturn, 1) := by decide +kernel
theorem dX3_counted_112 : decode cX3_counted 112 = .ok (.aload_n 0, 1) := by decide +kernel
theorem dX3_counted_113 : decode cX3_counted 113 = .ok (.iconst 0, 1) := by decide +kernel
theorem dX3_counted_114 : decode cX3_counted 114 = .ok (.invokevirtual 207, 3) := by decide +kernel
theorem dX3_counted_117 : decode cX3_counted 117 = .ok (.ireturn, 1) := by decide +kernel
theorem dX3_counted_118 : decode cX3_counted 118 = .ok (.aload_n 0, 1) := by decide +kernel
theorem dX3_counted_119 : decode cX3_counted 119 = .ok (.iconst 1, 1) := by decide +kernel
theorem dX3_counted_120 : decode cX3_counted 120 = .ok (.invokevirtual 207, 3) := by decide +kernel
theorem dX3_counted_123 : decode cX3_counted 123 = .ok (.ireturn, 1) := by decide +kernel
theorem dX3_standingOf_0 : decode cX3_standingOf 0 = .ok (.iconst 0, 1) := by decide +kernel
theorem dX3_standingOf_1 : decode cX3_standingOf 1 = .ok (.istore_n 2, 1) := by decide +kernel
theorem dX3_standingOf_2 : decode cX3_standingOf 2 = .ok (.iconst 0, 1) := by decide +kernel
theorem dX3_standingOf_3 : decode cX3_standingOf 3 = .ok (.istore_n 3, 1) := by decide +kernel
theorem dX3_standingOf_4 : decode cX3_standingOf 4 = .ok (.iload_n 3, 1) := by decide +kernel
theorem dX3_standingOf_5 : decode cX3_standingOf 5 = .ok (.aload_n 0, 1) := by decide +kernel
theorem dX3_standingOf_6 : decode cX3_standingOf 6 = .ok (.getfield 33, 3) := by decide +kernel
theorem dX3_standingOf_9 : decode cX3_standingOf 9 = .ok (.if_icmp .ge 35, 3) := by decide +kernel
theorem dX3_standingOf_12 : decode cX3_standingOf 12 = .ok (.aload_n 0, 1) := by decide +kernel
theorem dX3_standingOf_13 : decode cX3_standingOf 13 = .ok (.iload_n 3, 1) := by decide +kernel
theorem dX3_standingOf_14 : decode cX3_standingOf 14 = .ok (.invokevirtual 59, 3) := by decide +kernel
theorem dX3_standingOf_17 : decode cX3_standingOf 17 = .ok (.getfield 63, 3) := by decide +kernel
theorem dX3_standingOf_20 : decode cX3_standingOf 20 = .ok (.iload_n 1, 1) := by decide +kernel
theorem dX3_standingOf_21 : decode cX3_standingOf 21 = .ok (.if_icmp .ne 17, 3) := by decide +kernel
theorem dX3_standingOf_24 : decode cX3_standingOf 24 = .ok (.aload_n 0, 1) := by decide +kernel
theorem dX3_standingOf_25 : decode cX3_standingOf 25 = .ok (.iload_n 3, 1) := by decide +kernel
theorem dX3_standingOf_26 : decode cX3_standingOf 26 = .ok (.invokevirtual 59, 3) := by decide +kernel
theorem dX3_standingOf_29 : decode cX3_standingOf 29 = .ok (.invokevirtual 108, 3) := by decide +kernel
theorem dX3_standingOf_32 : decode cX3_standingOf 32 = .ok (.ifCond .ne 6, 3) := by decide +kernel
theorem dX3_standingOf_35 : decode cX3_standingOf 35 = .ok (.iinc 2 1, 3) := by decide +kernel
theorem dX3_standingOf_38 : decode cX3_standingOf 38 = .ok (.iinc 3 1, 3) := by decide +kernel
theorem dX3_standingOf_41 : decode cX3_standingOf 41 = .ok (.goto (-37), 3) := by decide +kernel
theorem dX3_standingOf_44 : decode cX3_standingOf 44 = .ok (.iload_n 2, 1) := by decide +kernel
theorem dX3_standingOf_45 : decode cX3_standingOf 45 = .ok (.ireturn, 1) := by decide +kernel
theorem dX3_delaying_0 : decode cX3_delaying 0 = .ok (.iconst 0, 1) := by decide +kernel
theorem dX3_delaying_1 : decode cX3_delaying 1 = .ok (.istore_n 1, 1) := by decide +kernel
theorem dX3_delaying_2 : decode cX3_delaying 2 = .ok (.iconst 0, 1) := by decide +kernel
theorem dX3_delaying_3 : decode cX3_delaying 3 = .ok (.istore_n 2, 1) := by decide +kernel
theorem dX3_delaying_4 : decode cX3_delaying 4 = .ok (.iload_n 2, 1) := by decide +kernel
theorem dX3_delaying_5 : decode cX3_delaying 5 = .ok (.aload_n 0, 1) := by decide +kernel
theorem dX3_delaying_6 : decode cX3_delaying 6 = .ok (.getfield 33, 3) := by decide +kernel
theorem dX3_delaying_9 : decode cX3_delaying 9 = .ok (.if_icmp .ge 34, 3) := by decide +kernel
theorem dX3_delaying_12 : decode cX3_delaying 12 = .ok (.aload_n 0, 1) := by decide +kernel
theorem dX3_delaying_13 : decode cX3_delaying 13 = .ok (.iload_n 2, 1) := by decide +kernel
theorem dX3_delaying_14 : decode cX3_delaying 14 = .ok (.invokevirtual 59, 3) := by decide +kernel
theorem dX3_delaying_17 : decode cX3_delaying 17 = .ok (.getfield 104, 3) := by decide +kernel
theorem dX3_delaying_20 : decode cX3_delaying 20 = .ok (.ifCond .eq 17, 3) := by decide +kernel
theorem dX3_delaying_23 : decode cX3_delaying 23 = .ok (.aload_n 0, 1) := by decide +kernel
theorem dX3_delaying_24 : decode cX3_delaying 24 = .ok (.iload_n 2, 1) := by decide +kernel
theorem dX3_delaying_25 : decode cX3_delaying 25 = .ok (.invokevirtual 59, 3) := by decide +kernel
theorem dX3_delaying_28 : decode cX3_delaying 28 = .ok (.invokevirtual 108, 3) := by decide +kernel
theorem dX3_delaying_31 : decode cX3_delaying 31 = .ok (.ifCond .ne 6, 3) := by decide +kernel
theorem dX3_delaying_34 : decode cX3_delaying 34 = .ok (.iinc 1 1, 3) := by decide +kernel
theorem dX3_delaying_37 : decode cX3_delaying 37 = .ok (.iinc 2 1, 3) := by decide +kernel
theorem dX3_delaying_40 : decode cX3_delaying 40 = .ok (.goto (-36), 3) := by decide +kernel
theorem dX3_delaying_43 : decode cX3_delaying 43 = .ok (.iload_n 1, 1) := by decide +kernel
theorem dX3_delaying_44 : decode cX3_delaying 44 = .ok (.ireturn, 1) := by decide +kernel
theorem dX3_readying_0 : decode cX3_readying 0 = .ok (.iconst 0, 1) := by decide +kernel
theorem dX3_readying_1 : decode cX3_readying 1 = .ok (.istore_n 1, 1) := by decide +kernel
theorem dX3_readying_2 : decode cX3_readying 2 = .ok (.iconst 0, 1) := by decide +kernel
theorem dX3_readying_3 : decode cX3_readying 3 = .ok (.istore_n 2, 1) := by decide +kernel
theorem dX3_readying_4 : decode cX3_readying 4 = .ok (.iload_n 2, 1) := by decide +kernel
theorem dX3_readying_5 : decode cX3_readying 5 = .ok (.aload_n 0, 1) := by decide +kernel
theorem dX3_readying_6 : decode cX3_readying 6 = .ok (.getfield 33, 3) := by decide +kernel
theorem dX3_readying_9 : decode cX3_readying 9 = .ok (.if_icmp .ge 34, 3) := by decide +kernel
theorem dX3_readying_12 : decode cX3_readying 12 = .ok (.aload_n 0, 1) := by decide +kernel
theorem dX3_readying_13 : decode cX3_readying 13 = .ok (.iload_n 2, 1) := by decide +kernel
theorem dX3_readying_14 : decode cX3_readying 14 = .ok (.invokevirtual 59, 3) := by decide +kernel
theorem dX3_readying_17 : decode cX3_readying 17 = .ok (.invokevirtual 182, 3) := by decide +kernel
theorem dX3_readying_20 : decode cX3_readying 20 = .ok (.ifCond .eq 17, 3) := by decide +kernel
theorem dX3_readying_23 : decode cX3_readying 23 = .ok (.aload_n 0, 1) := by decide +kernel
theorem dX3_readying_24 : decode cX3_readying 24 = .ok (.iload_n 2, 1) := by decide +kernel
theorem dX3_readying_25 : decode cX3_readying 25 = .ok (.invokevirtual 59, 3) := by decide +kernel
theorem dX3_readying_28 : decode cX3_readying 28 = .ok (.invokevirtual 108, 3) := by decide +kernel
theorem dX3_readying_31 : decode cX3_readying 31 = .ok (.ifCond .ne 6, 3) := by decide +kernel
theorem dX3_readying_34 : decode cX3_readying 34 = .ok (.iinc 1 1, 3) := by decide +kernel
theorem dX3_readying_37 : decode cX3_readying 37 = .ok (.iinc 2 1, 3) := by decide +kernel
theorem dX3_readying_40 : decode cX3_readying 40 = .ok (.goto (-36), 3) := by decide +kernel
theorem dX3_readying_43 : decode cX3_readying 43 = .ok (.iload_n 1, 1) := by decide +kernel
theorem dX3_readying_44 : decode cX3_readying 44 = .ok (.ireturn, 1) := by decide +kernel
theorem dX3_lifeOf_0 : decode cX3_lifeOf 0 = .ok (.iconst 0, 1) := by decide +kernel
theorem dX3_lifeOf_1 : decode cX3_lifeOf 1 = .ok (.istore_n 2, 1) := by decide +kernel
theorem dX3_lifeOf_2 : decode cX3_lifeOf 2 = .ok (.iconst 0, 1) := by decide +kernel
theorem dX3_lifeOf_3 : decode cX3_lifeOf 3 = .ok (.istore_n 3, 1) := by decide +kernel
theorem dX3_lifeOf_4 : decode cX3_lifeOf 4 = .ok (.iload_n 3, 1) := by decide +kernel
theorem dX3_lifeOf_5 : decode cX3_lifeOf 5 = .ok (.aload_n 0, 1) := by decide +kernel
theorem dX3_lifeOf_6 : decode cX3_lifeOf 6 = .ok (.getfield 33, 3) := by decide +kernel
theorem dX3_lifeOf_9 : decode cX3_lifeOf 9 = .ok (.if_icmp .ge 32, 3) := by decide +kernel
theorem dX3_lifeOf_12 : decode cX3_lifeOf 12 = .ok (.aload_n 0, 1) := by decide +kernel
theorem dX3_lifeOf_13 : decode cX3_lifeOf 13 = .ok (.iload_n 3, 1) := by decide +kernel
theorem dX3_lifeOf_14 : decode cX3_lifeOf 14 = .ok (.invokevirtual 59, 3) := by decide +kernel
theorem dX3_lifeOf_17 : decode cX3_lifeOf 17 = .ok (.getfield 63, 3) := by decide +kernel
theorem dX3_lifeOf_20 : decode cX3_lifeOf 20 = .ok (.iload_n 1, 1) := by decide +kernel
theorem dX3_lifeOf_21 : decode cX3_lifeOf 21 = .ok (.if_icmp .ne 14, 3) := by decide +kernel
theorem dX3_lifeOf_24 : decode cX3_lifeOf 24 = .ok (.iload_n 2, 1) := by decide +kernel
theorem dX3_lifeOf_25 : decode cX3_lifeOf 25 = .ok (.aload_n 0, 1) := by decide +kernel
theorem dX3_lifeOf_26 : decode cX3_lifeOf 26 = .ok (.iload_n 3, 1) := by decide +kernel
theorem dX3_lifeOf_27 : decode cX3_lifeOf 27 = .ok (.invokevirtual 59, 3) := by decide +kernel
theorem dX3_lifeOf_30 : decode cX3_lifeOf 30 = .ok (.getfield 169, 3) := by decide +kernel
theorem dX3_lifeOf_33 : decode cX3_lifeOf 33 = .ok (.iadd, 1) := by decide +kernel
theorem dX3_lifeOf_34 : decode cX3_lifeOf 34 = .ok (.istore_n 2, 1) := by decide +kernel
theorem dX3_lifeOf_35 : decode cX3_lifeOf 35 = .ok (.iinc 3 1, 3) := by decide +kernel
theorem dX3_lifeOf_38 : decode cX3_lifeOf 38 = .ok (.goto (-34), 3) := by decide +kernel
theorem dX3_lifeOf_41 : decode cX3_lifeOf 41 = .ok (.iload_n 2, 1) := by decide +kernel
theorem dX3_lifeOf_42 : decode cX3_lifeOf 42 = .ok (.ireturn, 1) := by decide +kernel
theorem dX4_init_0 : decode cX4_init 0 = .ok (.aload_n 0, 1) := by decide +kernel
theorem dX4_init_1 : decode cX4_init 1 = .ok (.invokespecial 1, 3) := by decide +kernel
theorem dX4_init_4 : decode cX4_init 4 = .ok (.aload_n 0, 1) := by decide +kernel
theorem dX4_init_5 : decode cX4_init 5 = .ok (.new 7, 3) := by decide +kernel
theorem dX4_init_8 : decode cX4_init 8 = .ok (.dup, 1) := by decide +kernel
theorem dX4_init_9 : decode cX4_init 9 = .ok (.invokespecial 9, 3) := by decide +kernel
theorem dX4_init_12 : decode cX4_init 12 = .ok (.putfield 10, 3) := by decide +kernel
theorem dX4_init_15 : decode cX4_init 15 = .ok (.aload_n 0, 1) := by decide +kernel
theorem dX4_init_16 : decode cX4_init 16 = .ok (.new 7, 3) := by decide +kernel
theorem dX4_init_19 : decode cX4_init 19 = .ok (.dup, 1) := by decide +kernel
theorem dX4_init_20 : decode cX4_init 20 = .ok (.invokespecial 9, 3) := by decide +kernel
theorem dX4_init_23 : decode cX4_init 23 = .ok (.putfield 16, 3) := by decide +kernel
theorem dX4_init_26 : decode cX4_init 26 = .ok (.aload_n 0, 1) := by decide +kernel
theorem dX4_init_27 : decode cX4_init 27 = .ok (.bipush 6, 2) := by decide +kernel
theorem dX4_init_29 : decode cX4_init 29 = .ok (.anewarray 7, 3) := by decide +kernel
theorem dX4_init_32 : decode cX4_init 32 = .ok (.putfield 19, 3) := by decide +kernel
theorem dX4_init_35 : decode cX4_init 35 = .ok (.aload_n 0, 1) := by decide +kernel
theorem dX4_init_36 : decode cX4_init 36 = .ok (.iconst 0, 1) := by decide +kernel
theorem dX4_init_37 : decode cX4_init 37 = .ok (.putfield 23, 3) := by decide +kernel
theorem dX4_init_40 : decode cX4_init 40 = .ok (.aload_n 0, 1) := by decide +kernel
theorem dX4_init_41 : decode cX4_init 41 = .ok (.new 27, 3) := by decide +kernel
theorem dX4_init_44 : decode cX4_init 44 = .ok (.dup, 1) := by decide +kernel
theorem dX4_init_45 : decode cX4_init 45 = .ok (.invokespecial 29, 3) := by decide +kernel
theorem dX4_init_48 : decode cX4_init 48 = .ok (.putfield 30, 3) := by decide +kernel
theorem dX4_init_51 : decode cX4_init 51 = .ok (.iconst 0, 1) := by decide +kernel
theorem dX4_init_52 : decode cX4_init 52 = .ok (.istore_n 1, 1) := by decide +kernel
theorem dX4_init_53 : decode cX4_init 53 = .ok (.iload_n 1, 1) := by decide +kernel
theorem dX4_init_54 : decode cX4_init 54 = .ok (.aload_n 0, 1) := by decide +kernel
theorem dX4_init_55 : decode cX4_init 55 = .ok (.getfield 19, 3) := by decide +kernel
theorem dX4_init_58 : decode cX4_init 58 = .ok (.arraylength, 1) := by decide +kernel
theorem dX4_init_59 : decode cX4_init 59 = .ok (.if_icmp .ge 22, 3) := by decide +kernel
theorem dX4_init_62 : decode cX4_init 62 = .ok (.aload_n 0, 1) := by decide +kernel
theorem dX4_init_63 : decode cX4_init 63 = .ok (.getfield 19, 3) := by decide +kernel
theorem dX4_init_66 : decode cX4_init 66 = .ok (.iload_n 1, 1) := by decide +kernel
theorem dX4_init_67 : decode cX4_init 67 = .ok (.new 7, 3) := by decide +kernel
theorem dX4_init_70 : decode cX4_init 70 = .ok (.dup, 1) := by decide +kernel
theorem dX4_init_71 : decode cX4_init 71 = .ok (.invokespecial 9, 3) := by decide +kernel
theorem dX4_init_74 : decode cX4_init 74 = .ok (.aastore, 1) := by decide +kernel
theorem dX4_init_75 : decode cX4_init 75 = .ok (.iinc 1 1, 3) := by decide +kernel
theorem dX4_init_78 : decode cX4_init 78 = .ok (.goto (-25), 3) := by decide +kernel
theorem dX4_init_81 : decode cX4_init 81 = .ok (.return_, 1) := by decide +kernel
theorem dX4_come_0 : decode cX4_come 0 = .ok (.iload_n 1, 1) := by decide +kernel
theorem dX4_come_1 : decode cX4_come 1 = .ok (.iconst 0, 1) := by decide +kernel
theorem dX4_come_2 : decode cX4_come 2 = .ok (.iconst 1, 1) := by decide +kernel
theorem dX4_come_3 : decode cX4_come 3 = .ok (.invokestatic 34, 3) := by decide +kernel
theorem dX4_come_6 : decode cX4_come 6 = .ok (.ifCond .eq 38, 3) := by decide +kernel
theorem dX4_come_9 : decode cX4_come 9 = .ok (.iload_n 2, 1) := by decide +kernel
theorem dX4_come_10 : decode cX4_come 10 = .ok (.iconst 0, 1) := by decide +kernel
theorem dX4_come_11 : decode cX4_come 11 = .ok (.bipush 40, 2) := by decide +kernel
theorem dX4_come_13 : decode cX4_come 13 = .ok (.invokestatic 34, 3) := by decide +kernel
theorem dX4_come_16 : decode cX4_come 16 = .ok (.ifCond .eq 28, 3) := by decide +kernel
theorem dX4_come_19 : decode cX4_come 19 = .ok (.iload_n 3, 1) := by decide +kernel
theorem dX4_come_20 : decode cX4_come 20 = .ok (.iconst 1, 1) := by decide +kernel
theorem dX4_come_21 : decode cX4_come 21 = .ok (.bipush 99, 2) := by decide +kernel
theorem dX4_come_23 : decode cX4_come 23 = .ok (.invokestatic 34, 3) := by decide +kernel
theorem dX4_come_26 : decode cX4_come 26 = .ok (.ifCond .eq 18, 3) := by decide +kernel
theorem dX4_come_29 : decode cX4_come 29 = .ok (.iload 4, 2) := by decide +kernel
theorem dX4_come_31 : decode cX4_come 31 = .ok (.iconst 1, 1) := by decide +kernel
theorem dX4_come_32 : decode cX4_come 32 = .ok (.bipush 20, 2) := by decide +kernel
theorem dX4_come_34 : decode cX4_come 34 = .ok (.invokestatic 34, 3) := by decide +kernel
theorem dX4_come_37 : decode cX4_come 37 = .ok (.ifCond .eq 7, 3) := by decide +kernel
theorem dX4_come_40 : decode cX4_come 40 = .ok (.iconst 1, 1) := by decide +kernel
theorem dX4_come_41 : decode cX4_come 41 = .ok (.goto 4, 3) := by decide +kernel
theorem dX4_come_44 : decode cX4_come 44 = .ok (.iconst 0, 1) := by decide +kernel
theorem dX4_come_45 : decode cX4_come 45 = .ok (.invokestatic 38, 3) := by decide +kernel
theorem dX4_come_48 : decode cX4_come 48 = .ok (.aload_n 0, 1) := by decide +kernel
theorem dX4_come_49 : decode cX4_come 49 = .ok (.getfield 10, 3) := by decide +kernel
theorem dX4_come_52 : decode cX4_come 52 = .ok (.getfield 42, 3) := by decide +kernel
theorem dX4_come_55 : decode cX4_come 55 = .ok (.bipush 10, 2) := by decide +kernel
theorem dX4_come_57 : decode cX4_come 57 = .ok (.if_icmp .ge 7, 3) := by decide +kernel
theorem dX4_come_60 : decode cX4_come 60 = .ok (.iconst 1, 1) := by decide +kernel
theorem dX4_come_61 : decode cX4_come 61 = .ok (.goto 4, 3) := by decide +kernel
theorem dX4_come_64 : decode cX4_come 64 = .ok (.iconst 0, 1) := by decide +kernel
theorem dX4_come_65 : decode cX4_come 65 = .ok (.invokestatic 45, 3) := by decide +kernel
theorem dX4_come_68 : decode cX4_come 68 = .ok (.aload_n 0, 1) := by decide +kernel
theorem dX4_come_69 : decode cX4_come 69 = .ok (.invokevirtual 48, 3) := by decide +kernel
theorem dX4_come_72 : decode cX4_come 72 = .ok (.aload_n 0, 1) := by decide +kernel
theorem dX4_come_73 : decode cX4_come 73 = .ok (.getfield 10, 3) := by decide +kernel
theorem dX4_come_76 : decode cX4_come 76 = .ok (.iload_n 1, 1) := by decide +kernel
theorem dX4_come_77 : decode cX4_come 77 = .ok (.iload_n 2, 1) := by decide +kernel
theorem dX4_come_78 : decode cX4_come 78 = .ok (.iload_n 3, 1) := by decide +kernel
theorem dX4_come_79 : decode cX4_come 79 = .ok (.iload 4, 2) := by decide +kernel
theorem dX4_come_81 : decode cX4_come 81 = .ok (.invokevirtual 51, 3) := by decide +kernel
theorem dX4_come_84 : decode cX4_come 84 = .ok (.ireturn, 1) := by decide +kernel
theorem dX4_begin_0 : decode cX4_begin 0 = .ok (.aload_n 0, 1) := by decide +kernel
theorem dX4_begin_1 : decode cX4_begin 1 = .ok (.invokevirtual 48, 3) := by decide +kernel
theorem dX4_begin_4 : decode cX4_begin 4 = .ok (.aload_n 0, 1) := by decide +kernel
theorem dX4_begin_5 : decode cX4_begin 5 = .ok (.getfield 10, 3) := by decide +kernel
theorem dX4_begin_8 : decode cX4_begin 8 = .ok (.invokevirtual 55, 3) := by decide +kernel
theorem dX4_begin_11 : decode cX4_begin 11 = .ok (.aload_n 0, 1) := by decide +kernel
theorem dX4_begin_12 : decode cX4_begin 12 = .ok (.getfield 10, 3) := by decide +kernel
theorem dX4_begin_15 : decode cX4_begin 15 = .ok (.getfield 58, 3) := by decide +kernel
theorem dX4_begin_18 : decode cX4_begin 18 = .ok (.ireturn, 1) := by decide +kernel
theorem dX4_strike_0 : decode cX4_strike 0 = .ok (.aload_n 0, 1) := by decide +kernel
theorem dX4_strike_1 : decode cX4_strike 1 = .ok (.iload_n 1, 1) := by decide +kernel
theorem dX4_strike_2 : decode cX4_strike 2 = .ok (.invokevirtual 61, 3) := by decide +kernel
theorem dX4_strike_5 : decode cX4_strike 5 = .ok (.aload_n 0, 1) := by decide +kernel
theorem dX4_strike_6 : decode cX4_strike 6 = .ok (.getfield 10, 3) := by decide +kernel
theorem dX4_strike_9 : decode cX4_strike 9 = .ok (.aload_n 0, 1) := by decide +kernel
theorem dX4_strike_10 : decode cX4_strike 10 = .ok (.getfield 10, 3) := by decide +kernel
theorem dX4_strike_13 : decode cX4_strike 13 = .ok (.getfield 58, 3) := by decide +kernel
theorem dX4_strike_16 : decode cX4_strike 16 = .ok (.iconst 0, 1) := by decide +kernel
theorem dX4_strike_17 : decode cX4_strike 17 = .ok (.iload_n 1, 1) := by decide +kernel
theorem dX4_strike_18 : decode cX4_strike 18 = .ok (.invokevirtual 65, 3) := by decide +kernel
theorem dX4_strike_21 : decode cX4_strike 21 = .ok (.invokestatic 45, 3) := by decide +kernel
theorem dX4_strike_24 : decode cX4_strike 24 = .ok (.aload_n 0, 1) := by decide +kernel
theorem dX4_strike_25 : decode cX4_strike 25 = .ok (.invokevirtual 48, 3) := by decide +kernel
theorem dX4_strike_28 : decode cX4_strike 28 = .ok (.aload_n 0, 1) := by decide +kernel
theorem dX4_strike_29 : decode cX4_strike 29 = .ok (.getfield 10, 3) := by decide +kernel
theorem dX4_strike_32 : decode cX4_strike 32 = .ok (.iconst 0, 1) := by decide +kernel
theorem dX4_strike_33 : decode cX4_strike 33 = .ok (.iload_n 1, 1) := by decide +kernel
theorem dX4_strike_34 : decode cX4_strike 34 = .ok (.iconst (-1), 1) := by decide +kernel
theorem dX4_strike_35 : decode cX4_strike 35 = .ok (.iconst 0, 1) := by decide +kernel
theorem dX4_strike_36 : decode cX4_strike 36 = .ok (.invokevirtual 68, 3) := by decide +kernel
theorem dX4_strike_39 : decode cX4_strike 39 = .ok (.ireturn, 1) := by decide +kernel
theorem dX4_step_0 : decode cX4_step 0 = .ok (.iload_n 1, 1) := by decide +kernel
theorem dX4_step_1 : decode cX4_step 1 = .ok (.iconst 0, 1) := by decide +kernel
theorem dX4_step_2 : decode cX4_step 2 = .ok (.bipush 9, 2) := by decide +kernel
theorem dX4_step_4 : decode cX4_step 4 = .ok (.invokestatic 34, 3) := by decide +kernel
theorem dX4_step_7 : decode cX4_step 7 = .ok (.invokestatic 38, 3) := by decide +kernel
theorem dX4_step_10 : decode cX4_step 10 = .ok (.aload_n 0, 1) := by decide +kernel
theorem dX4_step_11 : decode cX4_step 11 = .ok (.getfield 10, 3) := by decide +kernel
theorem dX4_step_14 : decode cX4_step 14 = .ok (.aload_n 0, 1) := by decide +kernel
theorem dX4_step_15 : decode cX4_step 15 = .ok (.getfield 10, 3) := by decide +kernel
theorem dX4_step_18 : decode cX4_step 18 = .ok (.getfield 58, 3) := by decide +kernel
theorem dX4_step_21 : decode cX4_step 21 = .ok (.iconst 1, 1) := by decide +kernel
theorem dX4_step_22 : decode cX4_step 22 = .ok (.iload_n 1, 1) := by decide +kernel
theorem dX4_step_23 : decode cX4_step 23 = .ok (.invokevirtual 65, 3) := by decide +kernel
theorem dX4_step_26 : decode cX4_step 26 = .ok (.invokestatic 45, 3) := by decide +kernel
theorem dX4_step_29 : decode cX4_step 29 = .ok (.aload_n 0, 1) := by decide +kernel
theorem dX4_step_30 : decode cX4_step 30 = .ok (.invokevirtual 48, 3) := by decide +kernel
theorem dX4_step_33 : decode cX4_step 33 = .ok (.aload_n 0, 1) := by decide +kernel
theorem dX4_step_34 : decode cX4_step 34 = .ok (.getfield 10, 3) := by decide +kernel
theorem dX4_step_37 : decode cX4_step 37 = .ok (.iconst 1, 1) := by decide +kernel
theorem dX4_step_38 : decode cX4_step 38 = .ok (.iload_n 1, 1) := by decide +kernel
theorem dX4_step_39 : decode cX4_step 39 = .ok (.iconst (-1), 1) := by decide +kernel
theorem dX4_step_40 : decode cX4_step 40 = .ok (.iconst 0, 1) := by decide +kernel
theorem dX4_step_41 : decode cX4_step 41 = .ok (.invokevirtual 68, 3) := by decide +kernel
theorem dX4_step_44 : decode cX4_step 44 = .ok (.ireturn, 1) := by decide +kernel
theorem dX4_help_0 : decode cX4_help 0 = .ok (.aload_n 0, 1) := by decide +kernel
theorem dX4_help_1 : decode cX4_help 1 = .ok (.iload_n 1, 1) := by decide +kernel
theorem dX4_help_2 : decode cX4_help 2 = .ok (.invokevirtual 61, 3) := by decide +kernel
theorem dX4_help_5 : decode cX4_help 5 = .ok (.aload_n 0, 1) := by decide +kernel
theorem dX4_help_6 : decode cX4_help 6 = .ok (.getfield 10, 3) := by decide +kernel
theorem dX4_help_9 : decode cX4_help 9 = .ok (.aload_n 0, 1) := by decide +kernel
theorem dX4_help_10 : decode cX4_help 10 = .ok (.getfield 10, 3) := by decide +kernel
theorem dX4_help_13 : decode cX4_help 13 = .ok (.getfield 58, 3) := by decide +kernel
theorem dX4_help_16 : decode cX4_help 16 = .ok (.iconst 2, 1) := by decide +kernel
theorem dX4_help_17 : decode cX4_help 17 = .ok (.iload_n 1, 1) := by decide +kernel
theorem dX4_help_18 : decode cX4_help 18 = .ok (.invokevirtual 65, 3) := by decide +kernel
theorem dX4_help_21 : decode cX4_help 21 = .ok (.invokestatic 45, 3) := by decide +kernel
theorem dX4_help_24 : decode cX4_help 24 = .ok (.aload_n 0, 1) := by decide +kernel
theorem dX4_help_25 : decode cX4_help 25 = .ok (.invokevirtual 48, 3) := by decide +kernel
theorem dX4_help_28 : decode cX4_help 28 = .ok (.aload_n 0, 1) := by decide +kernel
theorem dX4_help_29 : decode cX4_help 29 = .ok (.getfield 10, 3) := by decide +kernel
theorem dX4_help_32 : decode cX4_help 32 = .ok (.iconst 2, 1) := by decide +kernel
theorem dX4_help_33 : decode cX4_help 33 = .ok (.iload_n 1, 1) := by decide +kernel
theorem dX4_help_34 : decode cX4_help 34 = .ok (.iconst (-1), 1) := by decide +kernel
theorem dX4_help_35 : decode cX4_help 35 = .ok (.iconst 0, 1) := by decide +kernel
theorem dX4_help_36 : decode cX4_help 36 = .ok (.invokevirtual 68, 3) := by decide +kernel
theorem dX4_help_39 : decode cX4_help 39 = .ok (.ireturn, 1) := by decide +kernel
theorem dX4_curse_0 : decode cX4_curse 0 = .ok (.aload_n 0, 1) := by decide +kernel
theorem dX4_curse_1 : decode cX4_curse 1 = .ok (.iload_n 1, 1) := by decide +kernel
theorem dX4_curse_2 : decode cX4_curse 2 = .ok (.invokevirtual 61, 3) := by decide +kernel
theorem dX4_curse_5 : decode cX4_curse 5 = .ok (.iload_n 2, 1) := by decide +kernel
theorem dX4_curse_6 : decode cX4_curse 6 = .ok (.iconst 0, 1) := by decide +kernel
theorem dX4_curse_7 : decode cX4_curse 7 = .ok (.iconst 3, 1) := by decide +kernel
theorem dX4_curse_8 : decode cX4_curse 8 = .ok (.invokestatic 34, 3) := by decide +kernel
theorem dX4_curse_11 : decode cX4_curse 11 = .ok (.ifCond .eq 16, 3) := by decide +kernel
theorem dX4_curse_14 : decode cX4_curse 14 = .ok (.iload_n 3, 1) := by decide +kernel
theorem dX4_curse_15 : decode cX4_curse 15 = .ok (.iconst 1, 1) := by decide +kernel
theorem dX4_curse_16 : decode cX4_curse 16 = .ok (.iconst 5, 1) := by decide +kernel
theorem dX4_curse_17 : decode cX4_curse 17 = .ok (.invokestatic 34, 3) := by decide +kernel
theorem dX4_curse_20 : decode cX4_curse 20 = .ok (.ifCond .eq 7, 3) := by decide +kernel
theorem dX4_curse_23 : decode cX4_curse 23 = .ok (.iconst 1, 1) := by decide +kernel
theorem dX4_curse_24 : decode cX4_curse 24 = .ok (.goto 4, 3) := by decide +kernel
theorem dX4_curse_27 : decode cX4_curse 27 = .ok (.iconst 0, 1) := by decide +kernel
theorem dX4_curse_28 : decode cX4_curse 28 = .ok (.invokestatic 38, 3) := by decide +kernel
theorem dX4_curse_31 : decode cX4_curse 31 = .ok (.aload_n 0, 1) := by decide +kernel
theorem dX4_curse_32 : decode cX4_curse 32 = .ok (.getfield 10, 3) := by decide +kernel
theorem dX4_curse_35 : decode cX4_curse 35 = .ok (.aload_n 0, 1) := by decide +kernel
theorem dX4_curse_36 : decode cX4_curse 36 = .ok (.getfield 10, 3) := by decide +kernel
theorem dX4_curse_39 : decode cX4_curse 39 = .ok (.getfield 58, 3) := by decide +kernel
theorem dX4_curse_42 : decode cX4_curse 42 = .ok (.iconst 3, 1) := by decide +kernel
theorem dX4_curse_43 : decode cX4_curse 43 = .ok (.iload_n 1, 1) := by decide +kernel
theorem dX4_curse_44 : decode cX4_curse 44 = .ok (.invokevirtual 65, 3) := by decide +kernel
theorem dX4_curse_47 : decode cX4_curse 47 = .ok (.invokestatic 45, 3) := by decide +kernel
theorem dX4_curse_50 : decode cX4_curse 50 = .ok (.aload_n 0, 1) := by decide +kernel
theorem dX4_curse_51 : decode cX4_curse 51 = .ok (.invokevirtual 48, 3) := by decide +kernel
theorem dX4_curse_54 : decode cX4_curse 54 = .ok (.aload_n 0, 1) := by decide +kernel
theorem dX4_curse_55 : decode cX4_curse 55 = .ok (.getfield 10, 3) := by decide +kernel
theorem dX4_curse_58 : decode cX4_curse 58 = .ok (.iconst 3, 1) := by decide +kernel
theorem dX4_curse_59 : decode cX4_curse 59 = .ok (.iload_n 1, 1) := by decide +kernel
theorem dX4_curse_60 : decode cX4_curse 60 = .ok (.iload_n 2, 1) := by decide +kernel
theorem dX4_curse_61 : decode cX4_curse 61 = .ok (.iload_n 3, 1) := by decide +kernel
theorem dX4_curse_62 : decode cX4_curse 62 = .ok (.invokevirtual 68, 3) := by decide +kernel
theorem dX4_curse_65 : decode cX4_curse 65 = .ok (.ireturn, 1) := by decide +kernel
theorem dX4_delay_0 : decode cX4_delay 0 = .ok (.aload_n 0, 1) := by decide +kernel
theorem dX4_delay_1 : decode cX4_delay 1 = .ok (.getfield 10, 3) := by decide +kernel
theorem dX4_delay_4 : decode cX4_delay 4 = .ok (.getfield 58, 3) := by decide +kernel
theorem dX4_delay_7 : decode cX4_delay 7 = .ok (.iconst (-1), 1) := by decide +kernel
theorem dX4_delay_8 : decode cX4_delay 8 = .ok (.if_icmp .eq 7, 3) := by decide +kernel
theorem dX4_delay_11 : decode cX4_delay 11 = .ok (.iconst 1, 1) := by decide +kernel
theorem dX4_delay_12 : decode cX4_delay 12 = .ok (.goto 4, 3) := by decide +kernel
theorem dX4_delay_15 : decode cX4_delay 15 = .ok (.iconst 0, 1) := by decide +kernel
theorem dX4_delay_16 : decode cX4_delay 16 = .ok (.invokestatic 45, 3) := by decide +kernel
theorem dX4_delay_19 : decode cX4_delay 19 = .ok (.aload_n 0, 1) := by decide +kernel
theorem dX4_delay_20 : decode cX4_delay 20 = .ok (.invokevirtual 48, 3) := by decide +kernel
theorem dX4_delay_23 : decode cX4_delay 23 = .ok (.aload_n 0, 1) := by decide +kernel
theorem dX4_delay_24 : decode cX4_delay 24 = .ok (.getfield 10, 3) := by decide +kernel
theorem dX4_delay_27 : decode cX4_delay 27 = .ok (.invokevirtual 71, 3) := by decide +kernel
theorem dX4_delay_30 : decode cX4_delay 30 = .ok (.aload_n 0, 1) := by decide +kernel
theorem dX4_delay_31 : decode cX4_delay 31 = .ok (.getfield 10, 3) := by decide +kernel
theorem dX4_delay_34 : decode cX4_delay 34 = .ok (.getfield 58, 3) := by decide +kernel
theorem dX4_delay_37 : decode cX4_delay 37 = .ok (.ireturn, 1) := by decide +kernel
theorem dX4_ready_0 : decode cX4_ready 0 = .ok (.aload_n 0, 1) := by decide +kernel
theorem dX4_ready_1 : decode cX4_ready 1 = .ok (.iload_n 2, 1) := by decide +kernel
theorem dX4_ready_2 : decode cX4_ready 2 = .ok (.invokevirtual 61, 3) := by decide +kernel
theorem dX4_ready_5 : decode cX4_ready 5 = .ok (.iload_n 3, 1) := by decide +kernel
theorem dX4_ready_6 : decode cX4_ready 6 = .ok (.iconst (-1), 1) := by decide +kernel
theorem dX4_ready_7 : decode cX4_ready 7 = .ok (.if_icmp .eq 8, 3) := by decide +kernel
theorem dX4_ready_10 : decode cX4_ready 10 = .ok (.aload_n 0, 1) := by decide +kernel
theorem dX4_ready_11 : decode cX4_ready 11 = .ok (.iload_n 3, 1) := by decide +kernel
theorem dX4_ready_12 : decode cX4_ready 12 = .ok (.invokevirtual 61, 3) := by decide +kernel
theorem dX4_ready_15 : decode cX4_ready 15 = .ok (.iload_n 1, 1) := by decide +kernel
theorem dX4_ready_16 : decode cX4_ready 16 = .ok (.ifCond .eq 8, 3) := by decide +kernel
theorem dX4_ready_19 : decode cX4_ready 19 = .ok (.iload_n 1, 1) := by decide +kernel
theorem dX4_ready_20 : decode cX4_ready 20 = .ok (.iconst 2, 1) := by decide +kernel
theorem dX4_ready_21 : decode cX4_ready 21 = .ok (.if_icmp .ne 17, 3) := by decide +kernel
theorem dX4_ready_24 : decode cX4_ready 24 = .ok (.iload 4, 2) := by decide +kernel
theorem dX4_ready_26 : decode cX4_ready 26 = .ok (.iconst 0, 1) := by decide +kernel
theorem dX4_ready_27 : decode cX4_ready 27 = .ok (.iconst 3, 1) := by decide +kernel
theorem dX4_ready_28 : decode cX4_ready 28 = .ok (.invokestatic 34, 3) := by decide +kernel
theorem dX4_ready_31 : decode cX4_ready 31 = .ok (.ifCond .eq 7, 3) := by decide +kernel
theorem dX4_ready_34 : decode cX4_ready 34 = .ok (.iconst 1, 1) := by decide +kernel
theorem dX4_ready_35 : decode cX4_ready 35 = .ok (.goto 4, 3) := by decide +kernel
theorem dX4_ready_38 : decode cX4_ready 38 = .ok (.iconst 0, 1) := by decide +kernel
theorem dX4_ready_39 : decode cX4_ready 39 = .ok (.invokestatic 38, 3) := by decide +kernel
theorem dX4_ready_42 : decode cX4_ready 42 = .ok (.aload_n 0, 1) := by decide +kernel
theorem dX4_ready_43 : decode cX4_ready 43 = .ok (.getfield 10, 3) := by decide +kernel
theorem dX4_ready_46 : decode cX4_ready 46 = .ok (.getfield 58, 3) := by decide +kernel
theorem dX4_ready_49 : decode cX4_ready 49 = .ok (.iconst (-1), 1) := by decide +kernel
theorem dX4_ready_50 : decode cX4_ready 50 = .ok (.if_icmp .eq 29, 3) := by decide +kernel
theorem dX4_ready_53 : decode cX4_ready 53 = .ok (.iload_n 2, 1) := by decide +kernel
theorem dX4_ready_54 : decode cX4_ready 54 = .ok (.aload_n 0, 1) := by decide +kernel
theorem dX4_ready_55 : decode cX4_ready 55 = .ok (.getfield 10, 3) := by decide +kernel
theorem dX4_ready_58 : decode cX4_ready 58 = .ok (.getfield 58, 3) := by decide +kernel
theorem dX4_ready_61 : decode cX4_ready 61 = .ok (.if_icmp .eq 18, 3) := by decide +kernel
theorem dX4_ready_64 : decode cX4_ready 64 = .ok (.iload_n 3, 1) := by decide +kernel
theorem dX4_ready_65 : decode cX4_ready 65 = .ok (.aload_n 0, 1) := by decide +kernel
theorem dX4_ready_66 : decode cX4_ready 66 = .ok (.getfield 10, 3) := by decide +kernel
theorem dX4_ready_69 : decode cX4_ready 69 = .ok (.getfield 58, 3) := by decide +kernel
theorem dX4_ready_72 : decode cX4_ready 72 = .ok (.if_icmp .eq 7, 3) := by decide +kernel
theorem dX4_ready_75 : decode cX4_ready 75 = .ok (.iconst 1, 1) := by decide +kernel
theorem dX4_ready_76 : decode cX4_ready 76 = .ok (.goto 4, 3) := by decide +kernel
theorem dX4_ready_79 : decode cX4_ready 79 = .ok (.iconst 0, 1) := by decide +kernel
theorem dX4_ready_80 : decode cX4_ready 80 = .ok (.invokestatic 45, 3) := by decide +kernel
theorem dX4_ready_83 : decode cX4_ready 83 = .ok (.aload_n 0, 1) := by decide +kernel
theorem dX4_ready_84 : decode cX4_ready 84 = .ok (.invokevirtual 48, 3) := by decide +kernel
theorem dX4_ready_87 : decode cX4_ready 87 = .ok (.aload_n 0, 1) := by decide +kernel
theorem dX4_ready_88 : decode cX4_ready 88 = .ok (.getfield 10, 3) := by decide +kernel
theorem dX4_ready_91 : decode cX4_ready 91 = .ok (.iload_n 1, 1) := by decide +kernel
theorem dX4_ready_92 : decode cX4_ready 92 = .ok (.iload_n 2, 1) := by decide +kernel
theorem dX4_ready_93 : decode cX4_ready 93 = .ok (.iload_n 3, 1) := by decide +kernel
theorem dX4_ready_94 : decode cX4_ready 94 = .ok (.iload 4, 2) := by decide +kernel
theorem dX4_ready_96 : decode cX4_ready 96 = .ok (.invokevirtual 74, 3) := by decide +kernel
theorem dX4_ready_99 : decode cX4_ready 99 = .ok (.aload_n 0, 1) := by decide +kernel
theorem dX4_ready_100 : decode cX4_ready 100 = .ok (.getfield 10, 3) := by decide +kernel
theorem dX4_ready_103 : decode cX4_ready 103 = .ok (.getfield 58, 3) := by decide +kernel
theorem dX4_ready_106 : decode cX4_ready 106 = .ok (.ireturn, 1) := by decide +kernel
theorem dX4_end_0 : decode cX4_end 0 = .ok (.aload_n 0, 1) := by decide +kernel
theorem dX4_end_1 : decode cX4_end 1 = .ok (.getfield 10, 3) := by decide +kernel
theorem dX4_end_4 : decode cX4_end 4 = .ok (.getfield 58, 3) := by decide +kernel
theorem dX4_end_7 : decode cX4_end 7 = .ok (.iconst (-1), 1) := by decide +kernel
theorem dX4_end_8 : decode cX4_end 8 = .ok (.if_icmp .eq 7, 3) := by decide +kernel
theorem dX4_end_11 : decode cX4_end 11 = .ok (.iconst 1, 1) := by decide +kernel
theorem dX4_end_12 : decode cX4_end 12 = .ok (.goto 4, 3) := by decide +kernel
theorem dX4_end_15 : decode cX4_end 15 = .ok (.iconst 0, 1) := by decide +kernel
theorem dX4_end_16 : decode cX4_end 16 = .ok (.invokestatic 45, 3) := by decide +kernel
theorem dX4_end_19 : decode cX4_end 19 = .ok (.aload_n 0, 1) := by decide +kernel
theorem dX4_end_20 : decode cX4_end 20 = .ok (.invokevirtual 48, 3) := by decide +kernel
theorem dX4_end_23 : decode cX4_end 23 = .ok (.aload_n 0, 1) := by decide +kernel
theorem dX4_end_24 : decode cX4_end 24 = .ok (.getfield 10, 3) := by decide +kernel
theorem dX4_end_27 : decode cX4_end 27 = .ok (.invokevirtual 78, 3) := by decide +kernel
theorem dX4_end_30 : decode cX4_end 30 = .ok (.aload_n 0, 1) := by decide +kernel
theorem dX4_end_31 : decode cX4_end 31 = .ok (.getfield 10, 3) := by decide +kernel
theorem dX4_end_34 : decode cX4_end 34 = .ok (.getfield 58, 3) := by decide +kernel
theorem dX4_end_37 : decode cX4_end 37 = .ok (.ireturn, 1) := by decide +kernel
theorem dX4_comeIn_0 : decode cX4_comeIn 0 = .ok (.aload_n 0, 1) := by decide +kernel
theorem dX4_comeIn_1 : decode cX4_comeIn 1 = .ok (.iload_n 1, 1) := by decide +kernel
theorem dX4_comeIn_2 : decode cX4_comeIn 2 = .ok (.invokevirtual 61, 3) := by decide +kernel
theorem dX4_comeIn_5 : decode cX4_comeIn 5 = .ok (.aload_n 0, 1) := by decide +kernel
theorem dX4_comeIn_6 : decode cX4_comeIn 6 = .ok (.getfield 10, 3) := by decide +kernel
theorem dX4_comeIn_9 : decode cX4_comeIn 9 = .ok (.iload_n 1, 1) := by decide +kernel
theorem dX4_comeIn_10 : decode cX4_comeIn 10 = .ok (.invokevirtual 81, 3) := by decide +kernel
theorem dX4_comeIn_13 : decode cX4_comeIn 13 = .ok (.invokestatic 45, 3) := by decide +kernel
theorem dX4_comeIn_16 : decode cX4_comeIn 16 = .ok (.aload_n 0, 1) := by decide +kernel
theorem dX4_comeIn_17 : decode cX4_comeIn 17 = .ok (.invokevirtual 48, 3) := by decide +kernel
theorem dX4_comeIn_20 : decode cX4_comeIn 20 = .ok (.aload_n 0, 1) := by decide +kernel
theorem dX4_comeIn_21 : decode cX4_comeIn 21 = .ok (.getfield 10, 3) := by decide +kernel
theorem dX4_comeIn_24 : decode cX4_comeIn 24 = .ok (.iload_n 1, 1) := by decide +kernel
theorem dX4_comeIn_25 : decode cX4_comeIn 25 = .ok (.invokevirtual 85, 3) := by decide +kernel
theorem dX4_comeIn_28 : decode cX4_comeIn 28 = .ok (.ireturn, 1) := by decide +kernel
theorem dX4_undo_0 : decode cX4_undo 0 = .ok (.aload_n 0, 1) := by decide +kernel
theorem dX4_undo_1 : decode cX4_undo 1 = .ok (.getfield 23, 3) := by decide +kernel
theorem dX4_undo_4 : decode cX4_undo 4 = .ok (.ifCond .le 19, 3) := by decide +kernel
theorem dX4_undo_7 : decode cX4_undo 7 = .ok (.aload_n 0, 1) := by decide +kernel
theorem dX4_undo_8 : decode cX4_undo 8 = .ok (.getfield 23, 3) := by decide +kernel
theorem dX4_undo_11 : decode cX4_undo 11 = .ok (.aload_n 0, 1) := by decide +kernel
theorem dX4_undo_12 : decode cX4_undo 12 = .ok (.getfield 19, 3) := by decide +kernel
theorem dX4_undo_15 : decode cX4_undo 15 = .ok (.arraylength, 1) := by decide +kernel
theorem dX4_undo_16 : decode cX4_undo 16 = .ok (.if_icmp .gt 7, 3) := by decide +kernel
theorem dX4_undo_19 : decode cX4_undo 19 = .ok (.iconst 1, 1) := by decide +kernel
theorem dX4_undo_20 : decode cX4_undo 20 = .ok (.goto 4, 3) := by decide +kernel
theorem dX4_undo_23 : decode cX4_undo 23 = .ok (.iconst 0, 1) := by decide +kernel
theorem dX4_undo_24 : decode cX4_undo 24 = .ok (.invokestatic 45, 3) := by decide +kernel
theorem dX4_undo_27 : decode cX4_undo 27 = .ok (.aload_n 0, 1) := by decide +kernel
theorem dX4_undo_28 : decode cX4_undo 28 = .ok (.dup, 1) := by decide +kernel
theorem dX4_undo_29 : decode cX4_undo 29 = .ok (.getfield 23, 3) := by decide +kernel
theorem dX4_undo_32 : decode cX4_undo 32 = .ok (.iconst 1, 1) := by decide +kernel
theorem dX4_undo_33 : decode cX4_undo 33 = .ok (.isub, 1) := by decide +kernel
theorem dX4_undo_34 : decode cX4_undo 34 = .ok (.putfield 23, 3) := by decide +kernel
theorem dX4_undo_37 : decode cX4_undo 37 = .ok (.aload_n 0, 1) := by decide +kernel
theorem dX4_undo_38 : decode cX4_undo 38 = .ok (.getfield 10, 3) := by decide +kernel
theorem dX4_undo_41 : decode cX4_undo 41 = .ok (.aload_n 0, 1) := by decide +kernel
theorem dX4_undo_42 : decode cX4_undo 42 = .ok (.getfield 19, 3) := by decide +kernel
theorem dX4_undo_45 : decode cX4_undo 45 = .ok (.aload_n 0, 1) := by decide +kernel
theorem dX4_undo_46 : decode cX4_undo 46 = .ok (.getfield 23, 3) := by decide +kernel
theorem dX4_undo_49 : decode cX4_undo 49 = .ok (.aaload, 1) := by decide +kernel
theorem dX4_undo_50 : decode cX4_undo 50 = .ok (.invokevirtual 112, 3) := by decide +kernel
theorem dX4_undo_53 : decode cX4_undo 53 = .ok (.aload_n 0, 1) := by decide +kernel
theorem dX4_undo_54 : decode cX4_undo 54 = .ok (.getfield 23, 3) := by decide +kernel
theorem dX4_undo_57 : decode cX4_undo 57 = .ok (.ireturn, 1) := by decide +kernel
theorem dX4_fighter_0 : decode cX4_fighter 0 = .ok (.aload_n 0, 1) := by decide +kernel
theorem dX4_fighter_1 : decode cX4_fighter 1 = .ok (.iload_n 1, 1) := by decide +kernel
theorem dX4_fighter_2 : decode cX4_fighter 2 = .ok (.invokevirtual 61, 3) := by decide +kernel
theorem dX4_fighter_5 : decode cX4_fighter 5 = .ok (.iload_n 2, 1) := by decide +kernel
theorem dX4_fighter_6 : decode cX4_fighter 6 = .ok (.iconst 0, 1) := by decide +kernel
theorem dX4_fighter_7 : decode cX4_fighter 7 = .ok (.bipush 13, 2) := by decide +kernel
theorem dX4_fighter_9 : decode cX4_fighter 9 = .ok (.invokestatic 34, 3) := by decide +kernel
theorem dX4_fighter_12 : decode cX4_fighter 12 = .ok (.invokestatic 38, 3) := by decide +kernel
theorem dX4_fighter_15 : decode cX4_fighter 15 = .ok (.aload_n 0, 1) := by decide +kernel
theorem dX4_fighter_16 : decode cX4_fighter 16 = .ok (.getfield 10, 3) := by decide +kernel
theorem dX4_fighter_19 : decode cX4_fighter 19 = .ok (.iload_n 1, 1) := by decide +kernel
theorem dX4_fighter_20 : decode cX4_fighter 20 = .ok (.iload_n 2, 1) := by decide +kernel
theorem dX4_fighter_21 : decode cX4_fighter 21 = .ok (.invokevirtual 116, 3) := by decide +kernel
theorem dX4_fighter_24 : decode cX4_fighter 24 = .ok (.ireturn, 1) := by decide +kernel
theorem dX4_readied_0 : decode cX4_readied 0 = .ok (.aload_n 0, 1) := by decide +kernel
theorem dX4_readied_1 : decode cX4_readied 1 = .ok (.iload_n 1, 1) := by decide +kernel
theorem dX4_readied_2 : decode cX4_readied 2 = .ok (.invokevirtual 61, 3) := by decide +kernel
theorem dX4_readied_5 : decode cX4_readied 5 = .ok (.iload_n 2, 1) := by decide +kernel
theorem dX4_readied_6 : decode cX4_readied 6 = .ok (.iconst 0, 1) := by decide +kernel
theorem dX4_readied_7 : decode cX4_readied 7 = .ok (.iconst 3, 1) := by decide +kernel
theorem dX4_readied_8 : decode cX4_readied 8 = .ok (.invokestatic 34, 3) := by decide +kernel
theorem dX4_readied_11 : decode cX4_readied 11 = .ok (.invokestatic 38, 3) := by decide +kernel
theorem dX4_readied_14 : decode cX4_readied 14 = .ok (.aload_n 0, 1) := by decide +kernel
theorem dX4_readied_15 : decode cX4_readied 15 = .ok (.getfield 10, 3) := by decide +kernel
theorem dX4_readied_18 : decode cX4_readied 18 = .ok (.iload_n 1, 1) := by decide +kernel
theorem dX4_readied_19 : decode cX4_readied 19 = .ok (.invokevirtual 120, 3) := by decide +kernel
theorem dX4_readied_22 : decode cX4_readied 22 = .ok (.iload_n 2, 1) := by decide +kernel
theorem dX4_readied_23 : decode cX4_readied 23 = .ok (.invokevirtual 124, 3) := by decide +kernel
theorem dX4_readied_26 : decode cX4_readied 26 = .ok (.ireturn, 1) := by decide +kernel
theorem dX4_inRow_0 : decode cX4_inRow 0 = .ok (.iload_n 1, 1) := by decide +kernel
theorem dX4_inRow_1 : decode cX4_inRow 1 = .ok (.ifCond .lt 7, 3) := by decide +kernel
theorem dX4_inRow_4 : decode cX4_inRow 4 = .ok (.iconst 1, 1) := by decide +kernel
theorem dX4_inRow_5 : decode cX4_inRow 5 = .ok (.goto 4, 3) := by decide +kernel
theorem dX4_inRow_8 : decode cX4_inRow 8 = .ok (.iconst 0, 1) := by decide +kernel
theorem dX4_inRow_9 : decode cX4_inRow 9 = .ok (.invokestatic 38, 3) := by decide +kernel
theorem dX4_inRow_12 : decode cX4_inRow 12 = .ok (.aload_n 0, 1) := by decide +kernel
theorem dX4_inRow_13 : decode cX4_inRow 13 = .ok (.getfield 10, 3) := by decide +kernel
theorem dX4_inRow_16 : decode cX4_inRow 16 = .ok (.getfield 129, 3) := by decide +kernel
theorem dX4_inRow_19 : decode cX4_inRow 19 = .ok (.iload_n 1, 1) := by decide +kernel
theorem dX4_inRow_20 : decode cX4_inRow 20 = .ok (.invokevirtual 133, 3) := by decide +kernel
theorem dX4_inRow_23 : decode cX4_inRow 23 = .ok (.ireturn, 1) := by decide +kernel
theorem dX4_count_0 : decode cX4_count 0 = .ok (.iload_n 1, 1) := by decide +kernel
theorem dX4_count_1 : decode cX4_count 1 = .ok (.iconst 0, 1) := by decide +kernel
theorem dX4_count_2 : decode cX4_count 2 = .ok (.bipush 12, 2) := by decide +kernel
theorem dX4_count_4 : decode cX4_count 4 = .ok (.invokestatic 34, 3) := by decide +kernel
theorem dX4_count_7 : decode cX4_count 7 = .ok (.invokestatic 38, 3) := by decide +kernel
theorem dX4_count_10 : decode cX4_count 10 = .ok (.aload_n 0, 1) := by decide +kernel
theorem dX4_count_11 : decode cX4_count 11 = .ok (.iload_n 1, 1) := by decide +kernel
theorem dX4_count_12 : decode cX4_count 12 = .ok (.invokevirtual 138, 3) := by decide +kernel
theorem dX4_count_15 : decode cX4_count 15 = .ok (.ireturn, 1) := by decide +kernel
theorem dX4_ifDone_0 : decode cX4_ifDone 0 = .ok (.iload_n 1, 1) := by decide +kernel
theorem dX4_ifDone_1 : decode cX4_ifDone 1 = .ok (.iconst 0, 1) := by decide +kernel
theorem dX4_ifDone_2 : decode cX4_ifDone 2 = .ok (.iconst 3, 1) := by decide +kernel
theorem dX4_ifDone_3 : decode cX4_ifDone 3 = .ok (.invokestatic 34, 3) := by decide +kernel
theorem dX4_ifDone_6 : decode cX4_ifDone 6 = .ok (.ifCond .eq 16, 3) := by decide +kernel
theorem dX4_ifDone_9 : decode cX4_ifDone 9 = .ok (.iload_n 3, 1) := by decide +kernel
theorem dX4_ifDone_10 : decode cX4_ifDone 10 = .ok (.iconst 0, 1) := by decide +kernel
theorem dX4_ifDone_11 : decode cX4_ifDone 11 = .ok (.iconst 3, 1) := by decide +kernel
theorem dX4_ifDone_12 : decode cX4_ifDone 12 = .ok (.invokestatic 34, 3) := by decide +kernel
theorem dX4_ifDone_15 : decode cX4_ifDone 15 = .ok (.ifCond .eq 7, 3) := by decide +kernel
theorem dX4_ifDone_18 : decode cX4_ifDone 18 = .ok (.iconst 1, 1) := by decide +kernel
theorem dX4_ifDone_19 : decode cX4_ifDone 19 = .ok (.goto 4, 3) := by decide +kernel
theorem dX4_ifDone_22 : decode cX4_ifDone 22 = .ok (.iconst 0, 1) := by decide +kernel
theorem dX4_ifDone_23 : decode cX4_ifDone 23 = .ok (.invokestatic 38, 3) := by decide +kernel
theorem dX4_ifDone_26 : decode cX4_ifDone 26 = .ok (.iload_n 1, 1) := by decide +kernel
theorem dX4_ifDone_27 : decode cX4_ifDone 27 = .ok (.iconst 1, 1) := by decide +kernel
theorem dX4_ifDone_28 : decode cX4_ifDone 28 = .ok (.if_icmp .ne 13, 3) := by decide +kernel
theorem dX4_ifDone_31 : decode cX4_ifDone 31 = .ok (.iload_n 2, 1) := by decide +kernel
theorem dX4_ifDone_32 : decode cX4_ifDone 32 = .ok (.iconst 0, 1) := by decide +kernel
theorem dX4_ifDone_33 : decode cX4_ifDone 33 = .ok (.bipush 9, 2) := by decide +kernel
theorem dX4_ifDone_35 : decode cX4_ifDone 35 = .ok (.invokestatic 34, 3) := by decide +kernel
theorem dX4_ifDone_38 : decode cX4_ifDone 38 = .ok (.goto 11, 3) := by decide +kernel
theorem dX4_ifDone_41 : decode cX4_ifDone 41 = .ok (.aload_n 0, 1) := by decide +kernel
theorem dX4_ifDone_42 : decode cX4_ifDone 42 = .ok (.getfield 10, 3) := by decide +kernel
theorem dX4_ifDone_45 : decode cX4_ifDone 45 = .ok (.iload_n 2, 1) := by decide +kernel
theorem dX4_ifDone_46 : decode cX4_ifDone 46 = .ok (.invokevirtual 141, 3) := by decide +kernel
theorem dX4_ifDone_49 : decode cX4_ifDone 49 = .ok (.invokestatic 38, 3) := by decide +kernel
theorem dX4_ifDone_52 : decode cX4_ifDone 52 = .ok (.aload_n 0, 1) := by decide +kernel
theorem dX4_ifDone_53 : decode cX4_ifDone 53 = .ok (.getfield 10, 3) := by decide +kernel
theorem dX4_ifDone_56 : decode cX4_ifDone 56 = .ok (.aload_n 0, 1) := by decide +kernel
theorem dX4_ifDone_57 : decode cX4_ifDone 57 = .ok (.getfield 10, 3) := by decide +kernel
theorem dX4_ifDone_60 : decode cX4_ifDone 60 = .ok (.getfield 58, 3) := by decide +kernel
theorem dX4_ifDone_63 : decode cX4_ifDone 63 = .ok (.iload_n 1, 1) := by decide +kernel
theorem dX4_ifDone_64 : decode cX4_ifDone 64 = .ok (.iload_n 2, 1) := by decide +kernel
theorem dX4_ifDone_65 : decode cX4_ifDone 65 = .ok (.invokevirtual 65, 3) := by decide +kernel
theorem dX4_ifDone_68 : decode cX4_ifDone 68 = .ok (.istore 4, 2) := by decide +kernel
theorem dX4_ifDone_70 : decode cX4_ifDone 70 = .ok (.iload_n 3, 1) := by decide +kernel
theorem dX4_ifDone_71 : decode cX4_ifDone 71 = .ok (.ifCond .ne 14, 3) := by decide +kernel
theorem dX4_ifDone_74 : decode cX4_ifDone 74 = .ok (.iload 4, 2) := by decide +kernel
theorem dX4_ifDone_76 : decode cX4_ifDone 76 = .ok (.ifCond .eq 7, 3) := by decide +kernel
theorem dX4_ifDone_79 : decode cX4_ifDone 79 = .ok (.iconst 1, 1) := by decide +kernel
theorem dX4_ifDone_80 : decode cX4_ifDone 80 = .ok (.goto 4, 3) := by decide +kernel
theorem dX4_ifDone_83 : decode cX4_ifDone 83 = .ok (.iconst 0, 1) := by decide +kernel
theorem dX4_ifDone_84 : decode cX4_ifDone 84 = .ok (.ireturn, 1) := by decide +kernel
theorem dX4_ifDone_85 : decode cX4_ifDone 85 = .ok (.iload 4, 2) := by decide +kernel
theorem dX4_ifDone_87 : decode cX4_ifDone 87 = .ok (.ifCond .ne 5, 3) := by decide +kernel
theorem dX4_ifDone_90 : decode cX4_ifDone 90 = .ok (.iconst (-1), 1) := by decide +kernel
theorem dX4_ifDone_91 : decode cX4_ifDone 91 = .ok (.ireturn, 1) := by decide +kernel
theorem dX4_ifDone_92 : decode cX4_ifDone 92 = .ok (.iload_n 3, 1) := by decide +kernel
theorem dX4_ifDone_93 : decode cX4_ifDone 93 = .ok (.iconst 1, 1) := by decide +kernel
theorem dX4_ifDone_94 : decode cX4_ifDone 94 = .ok (.if_icmp .ne 12, 3) := by decide +kernel
theorem dX4_ifDone_97 : decode cX4_ifDone 97 = .ok (.aload_n 0, 1) := by decide +kernel
theorem dX4_ifDone_98 : decode cX4_ifDone 98 = .ok (.getfield 10, 3) := by decide +kernel
theorem dX4_ifDone_101 : decode cX4_ifDone 101 = .ok (.iload_n 1, 1) := by decide +kernel
theorem dX4_ifDone_102 : decode cX4_ifDone 102 = .ok (.invokevirtual 144, 3) := by decide +kernel
theorem dX4_ifDone_105 : decode cX4_ifDone 105 = .ok (.ireturn, 1) := by decide +kernel
theorem dX4_ifDone_106 : decode cX4_ifDone 106 = .ok (.aload_n 0, 1) := by decide +kernel
theorem dX4_ifDone_107 : decode cX4_ifDone 107 = .ok (.getfield 16, 3) := by decide +kernel
theorem dX4_ifDone_110 : decode cX4_ifDone 110 = .ok (.aload_n 0, 1) := by decide +kernel
theorem dX4_ifDone_111 : decode cX4_ifDone 111 = .ok (.getfield 10, 3) := by decide +kernel
theorem dX4_ifDone_114 : decode cX4_ifDone 114 = .ok (.invokevirtual 112, 3) := by decide +kernel
theorem dX4_ifDone_117 : decode cX4_ifDone 117 = .ok (.aload_n 0, 1) := by decide +kernel
theorem dX4_ifDone_118 : decode cX4_ifDone 118 = .ok (.getfield 16, 3) := by decide +kernel
theorem dX4_ifDone_121 : decode cX4_ifDone 121 = .ok (.iload_n 1, 1) := by decide +kernel
theorem dX4_ifDone_122 : decode cX4_ifDone 122 = .ok (.iload_n 2, 1) := by decide +kernel
theorem dX4_ifDone_123 : decode cX4_ifDone 123 = .ok (.iconst 0, 1) := by decide +kernel
theorem dX4_ifDone_124 : decode cX4_ifDone 124 = .ok (.iconst 1, 1) := by decide +kernel
theorem dX4_ifDone_125 : decode cX4_ifDone 125 = .ok (.invokevirtual 68, 3) := by decide +kernel
theorem dX4_ifDone_128 : decode cX4_ifDone 128 = .ok (.iconst (-1), 1) := by decide +kernel
theorem dX4_ifDone_129 : decode cX4_ifDone 129 = .ok (.if_icmp .ne 7, 3) := by decide +kernel
theorem dX4_ifDone_132 : decode cX4_ifDone 132 = .ok (.iconst 1, 1) := by decide +kernel
theorem dX4_ifDone_133 : decode cX4_ifDone 133 = .ok (.goto 4, 3) := by decide +kernel
theorem dX4_ifDone_136 : decode cX4_ifDone 136 = .ok (.iconst 0, 1) := by decide +kernel
theorem dX4_ifDone_137 : decode cX4_ifDone 137 = .ok (.istore 5, 2) := by decide +kernel
theorem dX4_ifDone_139 : decode cX4_ifDone 139 = .ok (.iload_n 3, 1) := by decide +kernel
theorem dX4_ifDone_140 : decode cX4_ifDone 140 = .ok (.iconst 2, 1) := by decide +kernel
theorem dX4_ifDone_141 : decode cX4_ifDone 141 = .ok (.if_icmp .ne 14, 3) := by decide +kernel
theorem dX4_ifDone_144 : decode cX4_ifDone 144 = .ok (.iload 5, 2) := by decide +kernel
theorem dX4_ifDone_146 : decode cX4_ifDone 146 = .ok (.ifCond .eq 7, 3) := by decide +kernel
theorem dX4_ifDone_149 : decode cX4_ifDone 149 = .ok (.iconst 0, 1) := by decide +kernel
theorem dX4_ifDone_150 : decode cX4_ifDone 150 = .ok (.goto 4, 3) := by decide +kernel
theorem dX4_ifDone_153 : decode cX4_ifDone 153 = .ok (.iconst 1, 1) := by decide +kernel
theorem dX4_ifDone_154 : decode cX4_ifDone 154 = .ok (.ireturn, 1) := by decide +kernel
theorem dX4_ifDone_155 : decode cX4_ifDone 155 = .ok (.aload_n 0, 1) := by decide +kernel
theorem dX4_ifDone_156 : decode cX4_ifDone 156 = .ok (.getfield 16, 3) := by decide +kernel
theorem dX4_ifDone_159 : decode cX4_ifDone 159 = .ok (.getfield 58, 3) := by decide +kernel
theorem dX4_ifDone_162 : decode cX4_ifDone 162 = .ok (.ireturn, 1) := by decide +kernel
theorem dX4_standing_0 : decode cX4_standing 0 = .ok (.aload_n 0, 1) := by decide +kernel
theorem dX4_standing_1 : decode cX4_standing 1 = .ok (.getfield 10, 3) := by decide +kernel
theorem dX4_standing_4 : decode cX4_standing 4 = .ok (.iconst 0, 1) := by decide +kernel
theorem dX4_standing_5 : decode cX4_standing 5 = .ok (.invokevirtual 158, 3) := by decide +kernel
theorem dX4_standing_8 : decode cX4_standing 8 = .ok (.istore_n 1, 1) := by decide +kernel
theorem dX4_standing_9 : decode cX4_standing 9 = .ok (.iload_n 1, 1) := by decide +kernel
theorem dX4_standing_10 : decode cX4_standing 10 = .ok (.aload_n 0, 1) := by decide +kernel
theorem dX4_standing_11 : decode cX4_standing 11 = .ok (.getfield 10, 3) := by decide +kernel
theorem dX4_standing_14 : decode cX4_standing 14 = .ok (.iconst 1, 1) := by decide +kernel
theorem dX4_standing_15 : decode cX4_standing 15 = .ok (.invokevirtual 158, 3) := by decide +kernel
theorem dX4_standing_18 : decode cX4_standing 18 = .ok (.iadd, 1) := by decide +kernel
theorem dX4_standing_19 : decode cX4_standing 19 = .ok (.istore_n 2, 1) := by decide +kernel
theorem dX4_standing_20 : decode cX4_standing 20 = .ok (.iload_n 2, 1) := by decide +kernel
theorem dX4_standing_21 : decode cX4_standing 21 = .ok (.ifCond .gt 7, 3) := by decide +kernel
theorem dX4_standing_24 : decode cX4_standing 24 = .ok (.ldc2_w 161, 3) := by decide +kernel
theorem dX4_standing_27 : decode cX4_standing 27 = .ok (.dreturn, 1) := by decide +kernel
theorem dX4_standing_28 : decode cX4_standing 28 = .ok (.iload_n 1, 1) := by decide +kernel
theorem dX4_standing_29 : decode cX4_standing 29 = .ok (.i2d, 1) := by decide +kernel
theorem dX4_standing_30 : decode cX4_standing 30 = .ok (.iload_n 2, 1) := by decide +kernel
theorem dX4_standing_31 : decode cX4_standing 31 = .ok (.i2d, 1) := by decide +kernel
theorem dX4_standing_32 : decode cX4_standing 32 = .ok (.ddiv, 1) := by decide +kernel
theorem dX4_standing_33 : decode cX4_standing 33 = .ok (.dreturn, 1) := by decide +kernel
theorem dX4_isWithin_0 : decode cX4_isWithin 0 = .ok (.iload_n 0, 1) := by decide +kernel
theorem dX4_isWithin_1 : decode cX4_isWithin 1 = .ok (.iload_n 1, 1) := by decide +kernel
theorem dX4_isWithin_2 : decode cX4_isWithin 2 = .ok (.if_icmp .lt 12, 3) := by decide +kernel
theorem dX4_isWithin_5 : decode cX4_isWithin 5 = .ok (.iload_n 0, 1) := by decide +kernel
theorem dX4_isWithin_6 : decode cX4_isWithin 6 = .ok (.iload_n 2, 1) := by decide +kernel
theorem dX4_isWithin_7 : decode cX4_isWithin 7 = .ok (.if_icmp .gt 7, 3) := by decide +kernel
theorem dX4_isWithin_10 : decode cX4_isWithin 10 = .ok (.iconst 1, 1) := by decide +kernel
theorem dX4_isWithin_11 : decode cX4_isWithin 11 = .ok (.goto 4, 3) := by decide +kernel
theorem dX4_isWithin_14 : decode cX4_isWithin 14 = .ok (.iconst 0, 1) := by decide +kernel
theorem dX4_isWithin_15 : decode cX4_isWithin 15 = .ok (.ireturn, 1) := by decide +kernel
theorem dX4_requireFighter_0 : decode cX4_requireFighter 0 = .ok (.aload_n 0, 1) := by decide +kernel
theorem dX4_requireFighter_1 : decode cX4_requireFighter 1 = .ok (.getfield 10, 3) := by decide +kernel
theorem dX4_requireFighter_4 : decode cX4_requireFighter 4 = .ok (.iload_n 1, 1) := by decide +kernel
theorem dX4_requireFighter_5 : decode cX4_requireFighter 5 = .ok (.invokevirtual 141, 3) := by decide +kernel
theorem dX4_requireFighter_8 : decode cX4_requireFighter 8 = .ok (.ifCond .ne 13, 3) := by decide +kernel
theorem dX4_requireFighter_11 : decode cX4_requireFighter 11 = .ok (.new 195, 3) := by decide +kernel
theorem dX4_requireFighter_14 : decode cX4_requireFighter 14 = .ok (.dup, 1) := by decide +kernel
theorem dX4_requireFighter_15 : decode cX4_requireFighter 15 = .ok (.ldc 197, 2) := by decide +kernel
theorem dX4_requireFighter_17 : decode cX4_requireFighter 17 = .ok (.invokespecial 199, 3) := by decide +kernel
theorem dX4_requireFighter_20 : decode cX4_requireFighter 20 = .ok (.athrow, 1) := by decide +kernel
theorem dX4_requireFighter_21 : decode cX4_requireFighter 21 = .ok (.return_, 1) := by decide +kernel
theorem dX4_requireArgument_0 : decode cX4_requireArgument 0 = .ok (.iload_n 0, 1) := by decide +kernel
theorem dX4_requireArgument_1 : decode cX4_requireArgument 1 = .ok (.ifCond .ne 13, 3) := by decide +kernel
theorem dX4_requireArgument_4 : decode cX4_requireArgument 4 = .ok (.new 202, 3) := by decide +kernel
theorem dX4_requireArgument_7 : decode cX4_requireArgument 7 = .ok (.dup, 1) := by decide +kernel
theorem dX4_requireArgument_8 : decode cX4_requireArgument 8 = .ok (.ldc 204, 2) := by decide +kernel
theorem dX4_requireArgument_10 : decode cX4_requireArgument 10 = .ok (.invokespecial 206, 3) := by decide +kernel
theorem dX4_requireArgument_13 : decode cX4_requireArgument 13 = .ok (.athrow, 1) := by decide +kernel
theorem dX4_requireArgument_14 : decode cX4_requireArgument 14 = .ok (.return_, 1) := by decide +kernel
theorem dX4_requireState_0 : decode cX4_requireState 0 = .ok (.iload_n 0, 1) := by decide +kernel
theorem dX4_requireState_1 : decode cX4_requireState 1 = .ok (.ifCond .ne 13, 3) := by decide +kernel
theorem dX4_requireState_4 : decode cX4_requireState 4 = .ok (.new 207, 3) := by decide +kernel
theorem dX4_requireState_7 : decode cX4_requireState 7 = .ok (.dup, 1) := by decide +kernel
theorem dX4_requireState_8 : decode cX4_requireState 8 = .ok (.ldc 209, 2) := by decide +kernel
theorem dX4_requireState_10 : decode cX4_requireState 10 = .ok (.invokespecial 211, 3) := by decide +kernel
theorem dX4_requireState_13 : decode cX4_requireState 13 = .ok (.athrow, 1) := by decide +kernel
theorem dX4_requireState_14 : decode cX4_requireState 14 = .ok (.return_, 1) := by decide +kernel
theorem dX4_save_0 : decode cX4_save 0 = .ok (.aload_n 0, 1) := by decide +kernel
theorem dX4_save_1 : decode cX4_save 1 = .ok (.getfield 23, 3) := by decide +kernel
theorem dX4_save_4 : decode cX4_save 4 = .ok (.aload_n 0, 1) := by decide +kernel
theorem dX4_save_5 : decode cX4_save 5 = .ok (.getfield 19, 3) := by decide +kernel
theorem dX4_save_8 : decode cX4_save 8 = .ok (.arraylength, 1) := by decide +kernel
theorem dX4_save_9 : decode cX4_save 9 = .ok (.if_icmp .lt 7, 3) := by decide +kernel
theorem dX4_save_12 : decode cX4_save 12 = .ok (.aload_n 0, 1) := by decide +kernel
theorem dX4_save_13 : decode cX4_save 13 = .ok (.invokevirtual 212, 3) := by decide +kernel
theorem dX4_save_16 : decode cX4_save 16 = .ok (.aload_n 0, 1) := by decide +kernel
theorem dX4_save_17 : decode cX4_save 17 = .ok (.getfield 23, 3) := by decide +kernel
theorem dX4_save_20 : decode cX4_save 20 = .ok (.ifCond .lt 41, 3) := by decide +kernel
theorem dX4_save_23 : decode cX4_save 23 = .ok (.aload_n 0, 1) := by decide +kernel
theorem dX4_save_24 : decode cX4_save 24 = .ok (.getfield 23, 3) := by decide +kernel
theorem dX4_save_27 : decode cX4_save 27 = .ok (.aload_n 0, 1) := by decide +kernel
theorem dX4_save_28 : decode cX4_save 28 = .ok (.getfield 19, 3) := by decide +kernel
theorem dX4_save_31 : decode cX4_save 31 = .ok (.arraylength, 1) := by decide +kernel
theorem dX4_save_32 : decode cX4_save 32 = .ok (.if_icmp .ge 29, 3) := by decide +kernel
theorem dX4_save_35 : decode cX4_save 35 = .ok (.aload_n 0, 1) := by decide +kernel
theorem dX4_save_36 : decode cX4_save 36 = .ok (.getfield 19, 3) := by decide +kernel
theorem dX4_save_39 : decode cX4_save 39 = .ok (.aload_n 0, 1) := by decide +kernel
theorem dX4_save_40 : decode cX4_save 40 = .ok (.getfield 23, 3) := by decide +kernel
theorem dX4_save_43 : decode cX4_save 43 = .ok (.aaload, 1) := by decide +kernel
theorem dX4_save_44 : decode cX4_save 44 = .ok (.aload_n 0, 1) := by decide +kernel
theorem dX4_save_45 : decode cX4_save 45 = .ok (.getfield 10, 3) := by decide +kernel
theorem dX4_save_48 : decode cX4_save 48 = .ok (.invokevirtual 112, 3) := by decide +kernel
theorem dX4_save_51 : decode cX4_save 51 = .ok (.aload_n 0, 1) := by decide +kernel
theorem dX4_save_52 : decode cX4_save 52 = .ok (.dup, 1) := by decide +kernel
theorem dX4_save_53 : decode cX4_save 53 = .ok (.getfield 23, 3) := by decide +kernel
theorem dX4_save_56 : decode cX4_save 56 = .ok (.iconst 1, 1) := by decide +kernel
theorem dX4_save_57 : decode cX4_save 57 = .ok (.iadd, 1) := by decide +kernel
theorem dX4_save_58 : decode cX4_save 58 = .ok (.putfield 23, 3) := by decide +kernel
theorem dX4_save_61 : decode cX4_save 61 = .ok (.return_, 1) := by decide +kernel
theorem dX4_dropOldest_0 : decode cX4_dropOldest 0 = .ok (.aload_n 0, 1) := by decide +kernel
theorem dX4_dropOldest_1 : decode cX4_dropOldest 1 = .ok (.getfield 19, 3) := by decide +kernel
theorem dX4_dropOldest_4 : decode cX4_dropOldest 4 = .ok (.iconst 0, 1) := by decide +kernel
theorem dX4_dropOldest_5 : decode cX4_dropOldest 5 = .ok (.aaload, 1) := by decide +kernel
theorem dX4_dropOldest_6 : decode cX4_dropOldest 6 = .ok (.astore_n 1, 1) := by decide +kernel
theorem dX4_dropOldest_7 : decode cX4_dropOldest 7 = .ok (.iconst 1, 1) := by decide +kernel
theorem dX4_dropOldest_8 : decode cX4_dropOldest 8 = .ok (.istore_n 2, 1) := by decide +kernel
theorem dX4_dropOldest_9 : decode cX4_dropOldest 9 = .ok (.iload_n 2, 1) := by decide +kernel
theorem dX4_dropOldest_10 : decode cX4_dropOldest 10 = .ok (.aload_n 0, 1) := by decide +kernel
theorem dX4_dropOldest_11 : decode cX4_dropOldest 11 = .ok (.getfield 19, 3) := by decide +kernel
theorem dX4_dropOldest_14 : decode cX4_dropOldest 14 = .ok (.arraylength, 1) := by decide +kernel
theorem dX4_dropOldest_15 : decode cX4_dropOldest 15 = .ok (.if_icmp .ge 23, 3) := by decide +kernel
theorem dX4_dropOldest_18 : decode cX4_dropOldest 18 = .ok (.aload_n 0, 1) := by decide +kernel
theorem dX4_dropOldest_19 : decode cX4_dropOldest 19 = .ok (.getfield 19, 3) := by decide +kernel
theorem dX4_dropOldest_22 : decode cX4_dropOldest 22 = .ok (.iload_n 2, 1) := by decide +kernel
theorem dX4_dropOldest_23 : decode cX4_dropOldest 23 = .ok (.iconst 1, 1) := by decide +kernel
theorem dX4_dropOldest_24 : decode cX4_dropOldest 24 = .ok (.isub, 1) := by decide +kernel
theorem dX4_dropOldest_25 : decode cX4_dropOldest 25 = .ok (.aload_n 0, 1) := by decide +kernel
theorem dX4_dropOldest_26 : decode cX4_dropOldest 26 = .ok (.getfield 19, 3) := by decide +kernel
theorem dX4_dropOldest_29 : decode cX4_dropOldest 29 = .ok (.iload_n 2, 1) := by decide +kernel
theorem dX4_dropOldest_30 : decode cX4_dropOldest 30 = .ok (.aaload, 1) := by decide +kernel
theorem dX4_dropOldest_31 : decode cX4_dropOldest 31 = .ok (.aastore, 1) := by decide +kernel
theorem dX4_dropOldest_32 : decode cX4_dropOldest 32 = .ok (.iinc 2 1, 3) := by decide +kernel
theorem dX4_dropOldest_35 : decode cX4_dropOldest 35 = .ok (.goto (-26), 3) := by decide +kernel
theorem dX4_dropOldest_38 : decode cX4_dropOldest 38 = .ok (.aload_n 0, 1) := by decide +kernel
theorem dX4_dropOldest_39 : decode cX4_dropOldest 39 = .ok (.getfield 19, 3) := by decide +kernel
theorem dX4_dropOldest_42 : decode cX4_dropOldest 42 = .ok (.aload_n 0, 1) := by decide +kernel
theorem dX4_dropOldest_43 : decode cX4_dropOldest 43 = .ok (.getfield 19, 3) := by decide +kernel
theorem dX4_dropOldest_46 : decode cX4_dropOldest 46 = .ok (.arraylength, 1) := by decide +kernel
theorem dX4_dropOldest_47 : decode cX4_dropOldest 47 = .ok (.iconst 1, 1) := by decide +kernel
theorem dX4_dropOldest_48 : decode cX4_dropOldest 48 = .ok (.isub, 1) := by decide +kernel
theorem dX4_dropOldest_49 : decode cX4_dropOldest 49 = .ok (.aload_n 1, 1) := by decide +kernel
theorem dX4_dropOldest_50 : decode cX4_dropOldest 50 = .ok (.aastore, 1) := by decide +kernel
theorem dX4_dropOldest_51 : decode cX4_dropOldest 51 = .ok (.aload_n 0, 1) := by decide +kernel
theorem dX4_dropOldest_52 : decode cX4_dropOldest 52 = .ok (.aload_n 0, 1) := by decide +kernel
theorem dX4_dropOldest_53 : decode cX4_dropOldest 53 = .ok (.getfield 19, 3) := by decide +kernel
theorem dX4_dropOldest_56 : decode cX4_dropOldest 56 = .ok (.arraylength, 1) := by decide +kernel
theorem dX4_dropOldest_57 : decode cX4_dropOldest 57 = .ok (.iconst 1, 1) := by decide +kernel
theorem dX4_dropOldest_58 : decode cX4_dropOldest 58 = .ok (.isub, 1) := by decide +kernel
theorem dX4_dropOldest_59 : decode cX4_dropOldest 59 = .ok (.putfield 23, 3) := by decide +kernel
theorem dX4_dropOldest_62 : decode cX4_dropOldest 62 = .ok (.return_, 1) := by decide +kernel
theorem dX4_counted_0 : decode cX4_counted 0 = .ok (.iload_n 1, 1) := by decide +kernel
theorem dX4_counted_1 : decode cX4_counted 1 = .ok (.bipush 12, 2) := by decide +kernel
theorem dX4_counted_3 : decode cX4_counted 3 = .ok (.if_icmp .ne 10, 3) := by decide +kernel
theorem dX4_counted_6 : decode cX4_counted 6 = .ok (.aload_n 0, 1) := by decide +kernel
theorem dX4_counted_7 : decode cX4_counted 7 = .ok (.getfield 23, 3) := by decide +kernel
theorem dX4_counted_10 : decode cX4_counted 10 = .ok (.goto 11, 3) := by decide +kernel
theorem dX4_counted_13 : decode cX4_counted 13 = .ok (.aload_n 0, 1) := by decide +kernel
theorem dX4_counted_14 : decode cX4_counted 14 = .ok (.getfield 10, 3) := by decide +kernel
theorem dX4_counted_17 : decode cX4_counted 17 = .ok (.iload_n 1, 1) := by decide +kernel
theorem dX4_counted_18 : decode cX4_counted 18 = .ok (.invokevirtual 221, 3) := by decide +kernel
theorem dX4_counted_21 : decode cX4_counted 21 = .ok (.ireturn, 1) := by decide +kernel
theorem dJ9_abs_0f7a4_0 : decode cJ9_abs_0f7a4 0 = .ok (.iload_n 0, 1) := by decide +kernel
theorem dJ9_abs_0f7a4_1 : decode cJ9_abs_0f7a4 1 = .ok (.ifCond .ge 8, 3) := by decide +kernel
theorem dJ9_abs_0f7a4_4 : decode cJ9_abs_0f7a4 4 = .ok (.iload_n 0, 1) := by decide +kernel
theorem dJ9_abs_0f7a4_5 : decode cJ9_abs_0f7a4 5 = .ok (.ineg, 1) := by decide +kernel
theorem dJ9_abs_0f7a4_6 : decode cJ9_abs_0f7a4 6 = .ok (.goto 4, 3) := by decide +kernel
theorem dJ9_abs_0f7a4_9 : decode cJ9_abs_0f7a4 9 = .ok (.iload_n 0, 1) := by decide +kernel
theorem dJ9_abs_0f7a4_10 : decode cJ9_abs_0f7a4 10 = .ok (.ireturn, 1) := by decide +kernel
theorem dJ9_max_7cf53_0 : decode cJ9_max_7cf53 0 = .ok (.iload_n 0, 1) := by decide +kernel
theorem dJ9_max_7cf53_1 : decode cJ9_max_7cf53 1 = .ok (.iload_n 1, 1) := by decide +kernel
theorem dJ9_max_7cf53_2 : decode cJ9_max_7cf53 2 = .ok (.if_icmp .lt 7, 3) := by decide +kernel
theorem dJ9_max_7cf53_5 : decode cJ9_max_7cf53 5 = .ok (.iload_n 0, 1) := by decide +kernel
theorem dJ9_max_7cf53_6 : decode cJ9_max_7cf53 6 = .ok (.goto 4, 3) := by decide +kernel
theorem dJ9_max_7cf53_9 : decode cJ9_max_7cf53 9 = .ok (.iload_n 1, 1) := by decide +kernel
theorem dJ9_max_7cf53_10 : decode cJ9_max_7cf53 10 = .ok (.ireturn, 1) := by decide +kernel
theorem dJ9_min_7cf53_0 : decode cJ9_min_7cf53 0 = .ok (.iload_n 0, 1) := by decide +kernel
theorem dJ9_min_7cf53_1 : decode cJ9_min_7cf53 1 = .ok (.iload_n 1, 1) := by decide +kernel
theorem dJ9_min_7cf53_2 : decode cJ9_min_7cf53 2 = .ok (.if_icmp .gt 7, 3) := by decide +kernel
theorem dJ9_min_7cf53_5 : decode cJ9_min_7cf53 5 = .ok (.iload_n 0, 1) := by decide +kernel
theorem dJ9_min_7cf53_6 : decode cJ9_min_7cf53 6 = .ok (.goto 4, 3) := by decide +kernel
theorem dJ9_min_7cf53_9 : decode cJ9_min_7cf53 9 = .ok (.iload_n 1, 1) := by decide +kernel
theorem dJ9_min_7cf53_10 : decode cJ9_min_7cf53 10 = .ok (.ireturn, 1) := by decide +kernel
theorem dL_cell_0 : decode cL_cell 0 = .ok (.iload_n 1, 1) := by decide +kernel
theorem dL_cell_1 : decode cL_cell 1 = .ok (.aload_n 0, 1) := by decide +kernel
theorem dL_cell_2 : decode cL_cell 2 = .ok (.arraylength, 1) := by decide +kernel
theorem dL_cell_3 : decode cL_cell 3 = .ok (.if_icmp .ge 9, 3) := by decide +kernel
theorem dL_cell_6 : decode cL_cell 6 = .ok (.aload_n 0, 1) := by decide +kernel
theorem dL_cell_7 : decode cL_cell 7 = .ok (.iload_n 1, 1) := by decide +kernel
theorem dL_cell_8 : decode cL_cell 8 = .ok (.iaload, 1) := by decide +kernel
theorem dL_cell_9 : decode cL_cell 9 = .ok (.goto 10, 3) := by decide +kernel
theorem dL_cell_12 : decode cL_cell 12 = .ok (.ldc 7, 2) := by decide +kernel
theorem dL_cell_14 : decode cL_cell 14 = .ok (.iload_n 1, 1) := by decide +kernel
theorem dL_cell_15 : decode cL_cell 15 = .ok (.imul, 1) := by decide +kernel
theorem dL_cell_16 : decode cL_cell 16 = .ok (.ldc 8, 2) := by decide +kernel
theorem dL_cell_18 : decode cL_cell 18 = .ok (.iadd, 1) := by decide +kernel
theorem dL_cell_19 : decode cL_cell 19 = .ok (.ireturn, 1) := by decide +kernel
theorem dL_low_0 : decode cL_low 0 = .ok (.iload_n 0, 1) := by decide +kernel
theorem dL_low_1 : decode cL_low 1 = .ok (.ldc 9, 2) := by decide +kernel
theorem dL_low_3 : decode cL_low 3 = .ok (.iand, 1) := by decide +kernel
theorem dL_low_4 : decode cL_low 4 = .ok (.iload_n 1, 1) := by decide +kernel
theorem dL_low_5 : decode cL_low 5 = .ok (.irem, 1) := by decide +kernel
theorem dL_low_6 : decode cL_low 6 = .ok (.ireturn, 1) := by decide +kernel
theorem dL_come_0 : decode cL_come 0 = .ok (.iconst 0, 1) := by decide +kernel
theorem dL_come_1 : decode cL_come 1 = .ok (.istore 4, 2) := by decide +kernel
theorem dL_come_3 : decode cL_come 3 = .ok (.iload 4, 2) := by decide +kernel
theorem dL_come_5 : decode cL_come 5 = .ok (.iload_n 3, 1) := by decide +kernel
theorem dL_come_6 : decode cL_come 6 = .ok (.if_icmp .ge 257, 3) := by decide +kernel
theorem dL_come_9 : decode cL_come 9 = .ok (.aload_n 1, 1) := by decide +kernel
theorem dL_come_10 : decode cL_come 10 = .ok (.iload_n 2, 1) := by decide +kernel
theorem dL_come_11 : decode cL_come 11 = .ok (.iload 4, 2) := by decide +kernel
theorem dL_come_13 : decode cL_come 13 = .ok (.iadd, 1) := by decide +kernel
theorem dL_come_14 : decode cL_come 14 = .ok (.invokestatic 10, 3) := by decide +kernel
theorem dL_come_17 : decode cL_come 17 = .ok (.istore 5, 2) := by decide +kernel
theorem dL_come_19 : decode cL_come 19 = .ok (.iload 5, 2) := by decide +kernel
theorem dL_come_21 : decode cL_come 21 = .ok (.iconst 2, 1) := by decide +kernel
theorem dL_come_22 : decode cL_come 22 = .ok (.invokestatic 16, 3) := by decide +kernel
theorem dL_come_25 : decode cL_come 25 = .ok (.istore 6, 2) := by decide +kernel
theorem dL_come_27 : decode cL_come 27 = .ok (.iload 5, 2) := by decide +kernel
theorem dL_come_29 : decode cL_come 29 = .ok (.iconst 1, 1) := by decide +kernel
theorem dL_come_30 : decode cL_come 30 = .ok (.ishr, 1) := by decide +kernel
theorem dL_come_31 : decode cL_come 31 = .ok (.iload 5, 2) := by decide +kernel
theorem dL_come_33 : decode cL_come 33 = .ok (.bipush 7, 2) := by decide +kernel
theorem dL_come_35 : decode cL_come 35 = .ok (.ishr, 1) := by decide +kernel
theorem dL_come_36 : decode cL_come 36 = .ok (.iconst 2, 1) := by decide +kernel
theorem dL_come_37 : decode cL_come 37 = .ok (.invokestatic 16, 3) := by decide +kernel
theorem dL_come_40 : decode cL_come 40 = .ok (.ifCond .ne 8, 3) := by decide +kernel
theorem dL_come_43 : decode cL_come 43 = .ok (.bipush 41, 2) := by decide +kernel
theorem dL_come_45 : decode cL_come 45 = .ok (.goto 5, 3) := by decide +kernel
theorem dL_come_48 : decode cL_come 48 = .ok (.bipush 6, 2) := by decide +kernel
theorem dL_come_50 : decode cL_come 50 = .ok (.invokestatic 16, 3) := by decide +kernel
theorem dL_come_53 : decode cL_come 53 = .ok (.istore 7, 2) := by decide +kernel
theorem dL_come_55 : decode cL_come 55 = .ok (.iconst 1, 1) := by decide +kernel
theorem dL_come_56 : decode cL_come 56 = .ok (.iload 5, 2) := by decide +kernel
theorem dL_come_58 : decode cL_come 58 = .ok (.bipush 8, 2) := by decide +kernel
theorem dL_come_60 : decode cL_come 60 = .ok (.ishr, 1) := by decide +kernel
theorem dL_come_61 : decode cL_come 61 = .ok (.iload 5, 2) := by decide +kernel
theorem dL_come_63 : decode cL_come 63 = .ok (.bipush 15, 2) := by decide +kernel
theorem dL_come_65 : decode cL_come 65 = .ok (.ishr, 1) := by decide +kernel
theorem dL_come_66 : decode cL_come 66 = .ok (.iconst 3, 1) := by decide +kernel
theorem dL_come_67 : decode cL_come 67 = .ok (.invokestatic 16, 3) := by decide +kernel
theorem dL_come_70 : decode cL_come 70 = .ok (.ifCond .ne 8, 3) := by decide +kernel
theorem dL_come_73 : decode cL_come 73 = .ok (.bipush 99, 2) := by decide +kernel
theorem dL_come_75 : decode cL_come 75 = .ok (.goto 5, 3) := by decide +kernel
theorem dL_come_78 : decode cL_come 78 = .ok (.bipush 20, 2) := by decide +kernel
theorem dL_come_80 : decode cL_come 80 = .ok (.invokestatic 16, 3) := by decide +kernel
theorem dL_come_83 : decode cL_come 83 = .ok (.iadd, 1) := by decide +kernel
theorem dL_come_84 : decode cL_come 84 = .ok (.istore 8, 2) := by decide +kernel
theorem dL_come_86 : decode cL_come 86 = .ok (.iconst 1, 1) := by decide +kernel
theorem dL_come_87 : decode cL_come 87 = .ok (.iload 5, 2) := by decide +kernel
theorem dL_come_89 : decode cL_come 89 = .ok (.bipush 17, 2) := by decide +kernel
theorem dL_come_91 : decode cL_come 91 = .ok (.ishr, 1) := by decide +kernel
theorem dL_come_92 : decode cL_come 92 = .ok (.iload 5, 2) := by decide +kernel
theorem dL_come_94 : decode cL_come 94 = .ok (.bipush 22, 2) := by decide +kernel
theorem dL_come_96 : decode cL_come 96 = .ok (.ishr, 1) := by decide +kernel
theorem dL_come_97 : decode cL_come 97 = .ok (.iconst 2, 1) := by decide +kernel
theorem dL_come_98 : decode cL_come 98 = .ok (.invokestatic 16, 3) := by decide +kernel
theorem dL_come_101 : decode cL_come 101 = .ok (.ifCond .ne 8, 3) := by decide +kernel
theorem dL_come_104 : decode cL_come 104 = .ok (.bipush 20, 2) := by decide +kernel
theorem dL_come_106 : decode cL_come 106 = .ok (.goto 5, 3) := by decide +kernel
theorem dL_come_109 : decode cL_come 109 = .ok (.bipush 6, 2) := by decide +kernel
theorem dL_come_111 : decode cL_come 111 = .ok (.invokestatic 16, 3) := by decide +kernel
theorem dL_come_114 : decode cL_come 114 = .ok (.iadd, 1) := by decide +kernel
theorem dL_come_115 : decode cL_come 115 = .ok (.istore 9, 2) := by decide +kernel
theorem dL_come_117 : decode cL_come 117 = .ok (.aload_n 0, 1) := by decide +kernel
theorem dL_come_118 : decode cL_come 118 = .ok (.iload 6, 2) := by decide +kernel
theorem dL_come_120 : decode cL_come 120 = .ok (.iload 7, 2) := by decide +kernel
theorem dL_come_122 : decode cL_come 122 = .ok (.iload 8, 2) := by decide +kernel
theorem dL_come_124 : decode cL_come 124 = .ok (.iload 9, 2) := by decide +kernel
theorem dL_come_126 : decode cL_come 126 = .ok (.invokevirtual 20, 3) := by decide +kernel
theorem dL_come_129 : decode cL_come 129 = .ok (.iload 4, 2) := by decide +kernel
theorem dL_come_131 : decode cL_come 131 = .ok (.if_icmp .ne 116, 3) := by decide +kernel
theorem dL_come_134 : decode cL_come 134 = .ok (.aload_n 0, 1) := by decide +kernel
theorem dL_come_135 : decode cL_come 135 = .ok (.iload 4, 2) := by decide +kernel
theorem dL_come_137 : decode cL_come 137 = .ok (.iconst 0, 1) := by decide +kernel
theorem dL_come_138 : decode cL_come 138 = .ok (.invokevirtual 26, 3) := by decide +kernel
theorem dL_come_141 : decode cL_come 141 = .ok (.iload 6, 2) := by decide +kernel
theorem dL_come_143 : decode cL_come 143 = .ok (.if_icmp .ne 104, 3) := by decide +kernel
theorem dL_come_146 : decode cL_come 146 = .ok (.aload_n 0, 1) := by decide +kernel
theorem dL_come_147 : decode cL_come 147 = .ok (.iload 4, 2) := by decide +kernel
theorem dL_come_149 : decode cL_come 149 = .ok (.iconst 1, 1) := by decide +kernel
theorem dL_come_150 : decode cL_come 150 = .ok (.invokevirtual 26, 3) := by decide +kernel
theorem dL_come_153 : decode cL_come 153 = .ok (.iload 7, 2) := by decide +kernel
theorem dL_come_155 : decode cL_come 155 = .ok (.if_icmp .ne 92, 3) := by decide +kernel
theorem dL_come_158 : decode cL_come 158 = .ok (.aload_n 0, 1) := by decide +kernel
theorem dL_come_159 : decode cL_come 159 = .ok (.iload 4, 2) := by decide +kernel
theorem dL_come_161 : decode cL_come 161 = .ok (.iconst 2, 1) := by decide +kernel
theorem dL_come_162 : decode cL_come 162 = .ok (.invokevirtual 26, 3) := by decide +kernel
theorem dL_come_165 : decode cL_come 165 = .ok (.iload 8, 2) := by decide +kernel
theorem dL_come_167 : decode cL_come 167 = .ok (.if_icmp .ne 80, 3) := by decide +kernel
theorem dL_come_170 : decode cL_come 170 = .ok (.aload_n 0, 1) := by decide +kernel
theorem dL_come_171 : decode cL_come 171 = .ok (.iload 4, 2) := by decide +kernel
theorem dL_come_173 : decode cL_come 173 = .ok (.iconst 3, 1) := by decide +kernel
theorem dL_come_174 : decode cL_come 174 = .ok (.invokevirtual 26, 3) := by decide +kernel
theorem dL_come_177 : decode cL_come 177 = .ok (.iload 8, 2) := by decide +kernel
theorem dL_come_179 : decode cL_come 179 = .ok (.if_icmp .ne 68, 3) := by decide +kernel
theorem dL_come_182 : decode cL_come 182 = .ok (.aload_n 0, 1) := by decide +kernel
theorem dL_come_183 : decode cL_come 183 = .ok (.iload 4, 2) := by decide +kernel
theorem dL_come_185 : decode cL_come 185 = .ok (.iconst 4, 1) := by decide +kernel
theorem dL_come_186 : decode cL_come 186 = .ok (.invokevirtual 26, 3) := by decide +kernel
theorem dL_come_189 : decode cL_come 189 = .ok (.iload 9, 2) := by decide +kernel
theorem dL_come_191 : decode cL_come 191 = .ok (.if_icmp .ne 56, 3) := by decide +kernel
theorem dL_come_194 : decode cL_come 194 = .ok (.aload_n 0, 1) := by decide +kernel
theorem dL_come_195 : decode cL_come 195 = .ok (.iload 4, 2) := by decide +kernel
theorem dL_come_197 : decode cL_come 197 = .ok (.iconst 5, 1) := by decide +kernel
theorem dL_come_198 : decode cL_come 198 = .ok (.invokevirtual 26, 3) := by decide +kernel
theorem dL_come_201 : decode cL_come 201 = .ok (.bipush 9, 2) := by decide +kernel
theorem dL_come_203 : decode cL_come 203 = .ok (.iload 6, 2) := by decide +kernel
theorem dL_come_205 : decode cL_come 205 = .ok (.imul, 1) := by decide +kernel
theorem dL_come_206 : decode cL_come 206 = .ok (.if_icmp .ne 41, 3) := by decide +kernel
theorem dL_come_209 : decode cL_come 209 = .ok (.aload_n 0, 1) := by decide +kernel
theorem dL_come_210 : decode cL_come 210 = .ok (.iload 4, 2) := by decide +kernel
theorem dL_come_212 : decode cL_come 212 = .ok (.bipush 7, 2) := by decide +kernel
theorem dL_come_214 : decode cL_come 214 = .ok (.invokevirtual 26, 3) := by decide +kernel
theorem dL_come_217 : decode cL_come 217 = .ok (.ifCond .ne 30, 3) := by decide +kernel
theorem dL_come_220 : decode cL_come 220 = .ok (.aload_n 0, 1) := by decide +kernel
theorem dL_come_221 : decode cL_come 221 = .ok (.iload 4, 2) := by decide +kernel
theorem dL_come_223 : decode cL_come 223 = .ok (.iconst 0, 1) := by decide +kernel
theorem dL_come_224 : decode cL_come 224 = .ok (.invokevirtual 29, 3) := by decide +kernel
theorem dL_come_227 : decode cL_come 227 = .ok (.iconst (-1), 1) := by decide +kernel
theorem dL_come_228 : decode cL_come 228 = .ok (.if_icmp .ne 19, 3) := by decide +kernel
theorem dL_come_231 : decode cL_come 231 = .ok (.aload_n 0, 1) := by decide +kernel
theorem dL_come_232 : decode cL_come 232 = .ok (.iconst 0, 1) := by decide +kernel
theorem dL_come_233 : decode cL_come 233 = .ok (.invokevirtual 32, 3) := by decide +kernel
theorem dL_come_236 : decode cL_come 236 = .ok (.iload 4, 2) := by decide +kernel
theorem dL_come_238 : decode cL_come 238 = .ok (.iconst 1, 1) := by decide +kernel
theorem dL_come_239 : decode cL_come 239 = .ok (.iadd, 1) := by decide +kernel
theorem dL_come_240 : decode cL_come 240 = .ok (.if_icmp .ne 7, 3) := by decide +kernel
theorem dL_come_243 : decode cL_come 243 = .ok (.iconst 1, 1) := by decide +kernel
theorem dL_come_244 : decode cL_come 244 = .ok (.goto 4, 3) := by decide +kernel
theorem dL_come_247 : decode cL_come 247 = .ok (.iconst 0, 1) := by decide +kernel
theorem dL_come_248 : decode cL_come 248 = .ok (.istore 10, 2) := by decide +kernel
theorem dL_come_250 : decode cL_come 250 = .ok (.iload 10, 2) := by decide +kernel
theorem dL_come_252 : decode cL_come 252 = .ok (.ifCond .ne 5, 3) := by decide +kernel
theorem dL_come_255 : decode cL_come 255 = .ok (.iconst 0, 1) := by decide +kernel
theorem dL_come_256 : decode cL_come 256 = .ok (.ireturn, 1) := by decide +kernel
theorem dL_come_257 : decode cL_come 257 = .ok (.iinc 4 1, 3) := by decide +kernel
theorem dL_come_260 : decode cL_come 260 = .ok (.goto (-257), 3) := by decide +kernel
theorem dL_come_263 : decode cL_come 263 = .ok (.iconst 1, 1) := by decide +kernel
theorem dL_come_264 : decode cL_come 264 = .ok (.ireturn, 1) := by decide +kernel
theorem dL_rank_0 : decode cL_rank 0 = .ok (.iconst 0, 1) := by decide +kernel
theorem dL_rank_1 : decode cL_rank 1 = .ok (.istore_n 2, 1) := by decide +kernel
theorem dL_rank_2 : decode cL_rank 2 = .ok (.aload_n 0, 1) := by decide +kernel
theorem dL_rank_3 : decode cL_rank 3 = .ok (.iload_n 2, 1) := by decide +kernel
theorem dL_rank_4 : decode cL_rank 4 = .ok (.iaload, 1) := by decide +kernel
theorem dL_rank_5 : decode cL_rank 5 = .ok (.iload_n 1, 1) := by decide +kernel
theorem dL_rank_6 : decode cL_rank 6 = .ok (.if_icmp .eq 9, 3) := by decide +kernel
theorem dL_rank_9 : decode cL_rank 9 = .ok (.iinc 2 1, 3) := by decide +kernel
theorem dL_rank_12 : decode cL_rank 12 = .ok (.goto (-10), 3) := by decide +kernel
theorem dL_rank_15 : decode cL_rank 15 = .ok (.iload_n 2, 1) := by decide +kernel
theorem dL_rank_16 : decode cL_rank 16 = .ok (.ireturn, 1) := by decide +kernel
theorem dL_lives_0 : decode cL_lives 0 = .ok (.aload_n 0, 1) := by decide +kernel
theorem dL_lives_1 : decode cL_lives 1 = .ok (.bipush 8, 2) := by decide +kernel
theorem dL_lives_3 : decode cL_lives 3 = .ok (.iload_n 1, 1) := by decide +kernel
theorem dL_lives_4 : decode cL_lives 4 = .ok (.imul, 1) := by decide +kernel
theorem dL_lives_5 : decode cL_lives 5 = .ok (.iaload, 1) := by decide +kernel
theorem dL_lives_6 : decode cL_lives 6 = .ok (.ifCond .le 7, 3) := by decide +kernel
theorem dL_lives_9 : decode cL_lives 9 = .ok (.iconst 1, 1) := by decide +kernel
theorem dL_lives_10 : decode cL_lives 10 = .ok (.goto 4, 3) := by decide +kernel
theorem dL_lives_13 : decode cL_lives 13 = .ok (.iconst 0, 1) := by decide +kernel
theorem dL_lives_14 : decode cL_lives 14 = .ok (.ireturn, 1) := by decide +kernel
theorem dL_forget_0 : decode cL_forget 0 = .ok (.iconst 4, 1) := by decide +kernel
theorem dL_forget_1 : decode cL_forget 1 = .ok (.istore_n 2, 1) := by decide +kernel
theorem dL_forget_2 : decode cL_forget 2 = .ok (.iload_n 2, 1) := by decide +kernel
theorem dL_forget_3 : decode cL_forget 3 = .ok (.bipush 8, 2) := by decide +kernel
theorem dL_forget_5 : decode cL_forget 5 = .ok (.if_icmp .ge 18, 3) := by decide +kernel
theorem dL_forget_8 : decode cL_forget 8 = .ok (.aload_n 0, 1) := by decide +kernel
theorem dL_forget_9 : decode cL_forget 9 = .ok (.bipush 8, 2) := by decide +kernel
theorem dL_forget_11 : decode cL_forget 11 = .ok (.iload_n 1, 1) := by decide +kernel
theorem dL_forget_12 : decode cL_forget 12 = .ok (.imul, 1) := by decide +kernel
theorem dL_forget_13 : decode cL_forget 13 = .ok (.iload_n 2, 1) := by decide +kernel
theorem dL_forget_14 : decode cL_forget 14 = .ok (.iadd, 1) := by decide +kernel
theorem dL_forget_15 : decode cL_forget 15 = .ok (.iconst (-1), 1) := by decide +kernel
theorem dL_forget_16 : decode cL_forget 16 = .ok (.iastore, 1) := by decide +kernel
theorem dL_forget_17 : decode cL_forget 17 = .ok (.iinc 2 1, 3) := by decide +kernel
theorem dL_forget_20 : decode cL_forget 20 = .ok (.goto (-18), 3) := by decide +kernel
theorem dL_forget_23 : decode cL_forget 23 = .ok (.return_, 1) := by decide +kernel
theorem dL_fade_0 : decode cL_fade 0 = .ok (.iconst 4, 1) := by decide +kernel
theorem dL_fade_1 : decode cL_fade 1 = .ok (.iload_n 1, 1) := by decide +kernel
theorem dL_fade_2 : decode cL_fade 2 = .ok (.imul, 1) := by decide +kernel
theorem dL_fade_3 : decode cL_fade 3 = .ok (.istore_n 2, 1) := by decide +kernel
theorem dL_fade_4 : decode cL_fade 4 = .ok (.iload_n 2, 1) := by decide +kernel
theorem dL_fade_5 : decode cL_fade 5 = .ok (.iconst 4, 1) := by decide +kernel
theorem dL_fade_6 : decode cL_fade 6 = .ok (.iload_n 1, 1) := by decide +kernel
theorem dL_fade_7 : decode cL_fade 7 = .ok (.imul, 1) := by decide +kernel
theorem dL_fade_8 : decode cL_fade 8 = .ok (.iconst 4, 1) := by decide +kernel
theorem dL_fade_9 : decode cL_fade 9 = .ok (.iadd, 1) := by decide +kernel
theorem dL_fade_10 : decode cL_fade 10 = .ok (.if_icmp .ge 26, 3) := by decide +kernel
theorem dL_fade_13 : decode cL_fade 13 = .ok (.aload_n 0, 1) := by decide +kernel
theorem dL_fade_14 : decode cL_fade 14 = .ok (.iload_n 2, 1) := by decide +kernel
theorem dL_fade_15 : decode cL_fade 15 = .ok (.dup2, 1) := by decide +kernel
theorem dL_fade_16 : decode cL_fade 16 = .ok (.iaload, 1) := by decide +kernel
theorem dL_fade_17 : decode cL_fade 17 = .ok (.aload_n 0, 1) := by decide +kernel
theorem dL_fade_18 : decode cL_fade 18 = .ok (.iload_n 2, 1) := by decide +kernel
theorem dL_fade_19 : decode cL_fade 19 = .ok (.iaload, 1) := by decide +kernel
theorem dL_fade_20 : decode cL_fade 20 = .ok (.ifCond .le 7, 3) := by decide +kernel
theorem dL_fade_23 : decode cL_fade 23 = .ok (.iconst 1, 1) := by decide +kernel
theorem dL_fade_24 : decode cL_fade 24 = .ok (.goto 4, 3) := by decide +kernel
theorem dL_fade_27 : decode cL_fade 27 = .ok (.iconst 0, 1) := by decide +kernel
theorem dL_fade_28 : decode cL_fade 28 = .ok (.isub, 1) := by decide +kernel
theorem dL_fade_29 : decode cL_fade 29 = .ok (.iastore, 1) := by decide +kernel
theorem dL_fade_30 : decode cL_fade 30 = .ok (.iinc 2 1, 3) := by decide +kernel
theorem dL_fade_33 : decode cL_fade 33 = .ok (.goto (-29), 3) := by decide +kernel
theorem dL_fade_36 : decode cL_fade 36 = .ok (.return_, 1) := by decide +kernel
theorem dL_goOn_0 : decode cL_goOn 0 = .ok (.aload_n 3, 1) := by decide +kernel
theorem dL_goOn_1 : decode cL_goOn 1 = .ok (.iconst 5, 1) := by decide +kernel
theorem dL_goOn_2 : decode cL_goOn 2 = .ok (.iaload, 1) := by decide +kernel
theorem dL_goOn_3 : decode cL_goOn 3 = .ok (.istore 5, 2) := by decide +kernel
theorem dL_goOn_5 : decode cL_goOn 5 = .ok (.iload 4, 2) := by decide +kernel
theorem dL_goOn_7 : decode cL_goOn 7 = .ok (.istore 6, 2) := by decide +kernel
theorem dL_goOn_9 : decode cL_goOn 9 = .ok (.aload_n 3, 1) := by decide +kernel
theorem dL_goOn_10 : decode cL_goOn 10 = .ok (.iconst 0, 1) := by decide +kernel
theorem dL_goOn_11 : decode cL_goOn 11 = .ok (.iconst (-1), 1) := by decide +kernel
theorem dL_goOn_12 : decode cL_goOn 12 = .ok (.iastore, 1) := by decide +kernel
theorem dL_goOn_13 : decode cL_goOn 13 = .ok (.iconst 0, 1) := by decide +kernel
theorem dL_goOn_14 : decode cL_goOn 14 = .ok (.istore 7, 2) := by decide +kernel
theorem dL_goOn_16 : decode cL_goOn 16 = .ok (.iload 7, 2) := by decide +kernel
theorem dL_goOn_18 : decode cL_goOn 18 = .ok (.iload 5, 2) := by decide +kernel
theorem dL_goOn_20 : decode cL_goOn 20 = .ok (.if_icmp .gt 282, 3) := by decide +kernel
theorem dL_goOn_23 : decode cL_goOn 23 = .ok (.aload_n 3, 1) := by decide +kernel
theorem dL_goOn_24 : decode cL_goOn 24 = .ok (.iconst 0, 1) := by decide +kernel
theorem dL_goOn_25 : decode cL_goOn 25 = .ok (.iaload, 1) := by decide +kernel
theorem dL_goOn_26 : decode cL_goOn 26 = .ok (.ifCond .ge 276, 3) := by decide +kernel
theorem dL_goOn_29 : decode cL_goOn 29 = .ok (.iinc 6 1, 3) := by decide +kernel
theorem dL_goOn_32 : decode cL_goOn 32 = .ok (.iload 6, 2) := by decide +kernel
theorem dL_goOn_34 : decode cL_goOn 34 = .ok (.iload 5, 2) := by decide +kernel
theorem dL_goOn_36 : decode cL_goOn 36 = .ok (.if_icmp .ne 88, 3) := by decide +kernel
theorem dL_goOn_39 : decode cL_goOn 39 = .ok (.iconst 0, 1) := by decide +kernel
theorem dL_goOn_40 : decode cL_goOn 40 = .ok (.istore 8, 2) := by decide +kernel
theorem dL_goOn_42 : decode cL_goOn 42 = .ok (.iconst 0, 1) := by decide +kernel
theorem dL_goOn_43 : decode cL_goOn 43 = .ok (.istore 9, 2) := by decide +kernel
theorem dL_goOn_45 : decode cL_goOn 45 = .ok (.iload 9, 2) := by decide +kernel
theorem dL_goOn_47 : decode cL_goOn 47 = .ok (.iload 5, 2) := by decide +kernel
theorem dL_goOn_49 : decode cL_goOn 49 = .ok (.if_icmp .ge 30, 3) := by decide +kernel
theorem dL_goOn_52 : decode cL_goOn 52 = .ok (.iload 8, 2) := by decide +kernel
theorem dL_goOn_54 : decode cL_goOn 54 = .ok (.ifCond .ne 12, 3) := by decide +kernel
theorem dL_goOn_57 : decode cL_goOn 57 = .ok (.aload_n 0, 1) := by decide +kernel
theorem dL_goOn_58 : decode cL_goOn 58 = .ok (.iload 9, 2) := by decide +kernel
theorem dL_goOn_60 : decode cL_goOn 60 = .ok (.invokestatic 36, 3) := by decide +kernel
theorem dL_goOn_63 : decode cL_goOn 63 = .ok (.ifCond .eq 7, 3) := by decide +kernel
theorem dL_goOn_66 : decode cL_goOn 66 = .ok (.iconst 1, 1) := by decide +kernel
theorem dL_goOn_67 : decode cL_goOn 67 = .ok (.goto 4, 3) := by decide +kernel
theorem dL_goOn_70 : decode cL_goOn 70 = .ok (.iconst 0, 1) := by decide +kernel
theorem dL_goOn_71 : decode cL_goOn 71 = .ok (.istore 8, 2) := by decide +kernel
theorem dL_goOn_73 : decode cL_goOn 73 = .ok (.iinc 9 1, 3) := by decide +kernel
theorem dL_goOn_76 : decode cL_goOn 76 = .ok (.goto (-31), 3) := by decide +kernel
theorem dL_goOn_79 : decode cL_goOn 79 = .ok (.iload 8, 2) := by decide +kernel
theorem dL_goOn_81 : decode cL_goOn 81 = .ok (.ifCond .ne 4, 3) := by decide +kernel
theorem dL_goOn_84 : decode cL_goOn 84 = .ok (.return_, 1) := by decide +kernel
theorem dL_goOn_85 : decode cL_goOn 85 = .ok (.aload_n 3, 1) := by decide +kernel
theorem dL_goOn_86 : decode cL_goOn 86 = .ok (.iconst 1, 1) := by decide +kernel
theorem dL_goOn_87 : decode cL_goOn 87 = .ok (.dup2, 1) := by decide +kernel
theorem dL_goOn_88 : decode cL_goOn 88 = .ok (.iaload, 1) := by decide +kernel
theorem dL_goOn_89 : decode cL_goOn 89 = .ok (.iconst 1, 1) := by decide +kernel
theorem dL_goOn_90 : decode cL_goOn 90 = .ok (.iadd, 1) := by decide +kernel
theorem dL_goOn_91 : decode cL_goOn 91 = .ok (.iastore, 1) := by decide +kernel
theorem dL_goOn_92 : decode cL_goOn 92 = .ok (.iconst 0, 1) := by decide +kernel
theorem dL_goOn_93 : decode cL_goOn 93 = .ok (.istore 9, 2) := by decide +kernel
theorem dL_goOn_95 : decode cL_goOn 95 = .ok (.iload 9, 2) := by decide +kernel
theorem dL_goOn_97 : decode cL_goOn 97 = .ok (.iload 5, 2) := by decide +kernel
theorem dL_goOn_99 : decode cL_goOn 99 = .ok (.if_icmp .ge 19, 3) := by decide +kernel
theorem dL_goOn_102 : decode cL_goOn 102 = .ok (.aload_n 0, 1) := by decide +kernel
theorem dL_goOn_103 : decode cL_goOn 103 = .ok (.bipush 8, 2) := by decide +kernel
theorem dL_goOn_105 : decode cL_goOn 105 = .ok (.iload 9, 2) := by decide +kernel
theorem dL_goOn_107 : decode cL_goOn 107 = .ok (.imul, 1) := by decide +kernel
theorem dL_goOn_108 : decode cL_goOn 108 = .ok (.iconst 3, 1) := by decide +kernel
theorem dL_goOn_109 : decode cL_goOn 109 = .ok (.iadd, 1) := by decide +kernel
theorem dL_goOn_110 : decode cL_goOn 110 = .ok (.iconst 0, 1) := by decide +kernel
theorem dL_goOn_111 : decode cL_goOn 111 = .ok (.iastore, 1) := by decide +kernel
theorem dL_goOn_112 : decode cL_goOn 112 = .ok (.iinc 9 1, 3) := by decide +kernel
theorem dL_goOn_115 : decode cL_goOn 115 = .ok (.goto (-20), 3) := by decide +kernel
theorem dL_goOn_118 : decode cL_goOn 118 = .ok (.iconst 0, 1) := by decide +kernel
theorem dL_goOn_119 : decode cL_goOn 119 = .ok (.istore 6, 2) := by decide +kernel
theorem dL_goOn_121 : decode cL_goOn 121 = .ok (.iconst 0, 1) := by decide +kernel
theorem dL_goOn_122 : decode cL_goOn 122 = .ok (.istore 7, 2) := by decide +kernel
theorem dL_goOn_124 : decode cL_goOn 124 = .ok (.aload_n 2, 1) := by decide +kernel
theorem dL_goOn_125 : decode cL_goOn 125 = .ok (.iload 6, 2) := by decide +kernel
theorem dL_goOn_127 : decode cL_goOn 127 = .ok (.iaload, 1) := by decide +kernel
theorem dL_goOn_128 : decode cL_goOn 128 = .ok (.istore 8, 2) := by decide +kernel
theorem dL_goOn_130 : decode cL_goOn 130 = .ok (.aload_n 0, 1) := by decide +kernel
theorem dL_goOn_131 : decode cL_goOn 131 = .ok (.iload 8, 2) := by decide +kernel
theorem dL_goOn_133 : decode cL_goOn 133 = .ok (.invokestatic 36, 3) := by decide +kernel
theorem dL_goOn_136 : decode cL_goOn 136 = .ok (.ifCond .eq 160, 3) := by decide +kernel
theorem dL_goOn_139 : decode cL_goOn 139 = .ok (.aload_n 0, 1) := by decide +kernel
theorem dL_goOn_140 : decode cL_goOn 140 = .ok (.bipush 8, 2) := by decide +kernel
theorem dL_goOn_142 : decode cL_goOn 142 = .ok (.iload 8, 2) := by decide +kernel
theorem dL_goOn_144 : decode cL_goOn 144 = .ok (.imul, 1) := by decide +kernel
theorem dL_goOn_145 : decode cL_goOn 145 = .ok (.iconst 3, 1) := by decide +kernel
theorem dL_goOn_146 : decode cL_goOn 146 = .ok (.iadd, 1) := by decide +kernel
theorem dL_goOn_147 : decode cL_goOn 147 = .ok (.iaload, 1) := by decide +kernel
theorem dL_goOn_148 : decode cL_goOn 148 = .ok (.ifCond .ne 148, 3) := by decide +kernel
theorem dL_goOn_151 : decode cL_goOn 151 = .ok (.aload_n 3, 1) := by decide +kernel
theorem dL_goOn_152 : decode cL_goOn 152 = .ok (.iconst 4, 1) := by decide +kernel
theorem dL_goOn_153 : decode cL_goOn 153 = .ok (.dup2, 1) := by decide +kernel
theorem dL_goOn_154 : decode cL_goOn 154 = .ok (.iaload, 1) := by decide +kernel
theorem dL_goOn_155 : decode cL_goOn 155 = .ok (.iconst 1, 1) := by decide +kernel
theorem dL_goOn_156 : decode cL_goOn 156 = .ok (.iadd, 1) := by decide +kernel
theorem dL_goOn_157 : decode cL_goOn 157 = .ok (.iastore, 1) := by decide +kernel
theorem dL_goOn_158 : decode cL_goOn 158 = .ok (.aload_n 0, 1) := by decide +kernel
theorem dL_goOn_159 : decode cL_goOn 159 = .ok (.iload 8, 2) := by decide +kernel
theorem dL_goOn_161 : decode cL_goOn 161 = .ok (.invokestatic 40, 3) := by decide +kernel
theorem dL_goOn_164 : decode cL_goOn 164 = .ok (.aload_n 1, 1) := by decide +kernel
theorem dL_goOn_165 : decode cL_goOn 165 = .ok (.iconst 4, 1) := by decide +kernel
theorem dL_goOn_166 : decode cL_goOn 166 = .ok (.iload 8, 2) := by decide +kernel
theorem dL_goOn_168 : decode cL_goOn 168 = .ok (.imul, 1) := by decide +kernel
theorem dL_goOn_169 : decode cL_goOn 169 = .ok (.iconst 3, 1) := by decide +kernel
theorem dL_goOn_170 : decode cL_goOn 170 = .ok (.iadd, 1) := by decide +kernel
theorem dL_goOn_171 : decode cL_goOn 171 = .ok (.iaload, 1) := by decide +kernel
theorem dL_goOn_172 : decode cL_goOn 172 = .ok (.ifCond .le 7, 3) := by decide +kernel
theorem dL_goOn_175 : decode cL_goOn 175 = .ok (.iconst 2, 1) := by decide +kernel
theorem dL_goOn_176 : decode cL_goOn 176 = .ok (.goto 4, 3) := by decide +kernel
theorem dL_goOn_179 : decode cL_goOn 179 = .ok (.iconst 0, 1) := by decide +kernel
theorem dL_goOn_180 : decode cL_goOn 180 = .ok (.istore 9, 2) := by decide +kernel
theorem dL_goOn_182 : decode cL_goOn 182 = .ok (.aload_n 0, 1) := by decide +kernel
theorem dL_goOn_183 : decode cL_goOn 183 = .ok (.bipush 8, 2) := by decide +kernel
theorem dL_goOn_185 : decode cL_goOn 185 = .ok (.iload 8, 2) := by decide +kernel
theorem dL_goOn_187 : decode cL_goOn 187 = .ok (.imul, 1) := by decide +kernel
theorem dL_goOn_188 : decode cL_goOn 188 = .ok (.aload_n 0, 1) := by decide +kernel
theorem dL_goOn_189 : decode cL_goOn 189 = .ok (.bipush 8, 2) := by decide +kernel
theorem dL_goOn_191 : decode cL_goOn 191 = .ok (.iload 8, 2) := by decide +kernel
theorem dL_goOn_193 : decode cL_goOn 193 = .ok (.imul, 1) := by decide +kernel
theorem dL_goOn_194 : decode cL_goOn 194 = .ok (.iaload, 1) := by decide +kernel
theorem dL_goOn_195 : decode cL_goOn 195 = .ok (.iload 9, 2) := by decide +kernel
theorem dL_goOn_197 : decode cL_goOn 197 = .ok (.if_icmp .ge 7, 3) := by decide +kernel
theorem dL_goOn_200 : decode cL_goOn 200 = .ok (.iconst 0, 1) := by decide +kernel
theorem dL_goOn_201 : decode cL_goOn 201 = .ok (.goto 13, 3) := by decide +kernel
theorem dL_goOn_204 : decode cL_goOn 204 = .ok (.aload_n 0, 1) := by decide +kernel
theorem dL_goOn_205 : decode cL_goOn 205 = .ok (.bipush 8, 2) := by decide +kernel
theorem dL_goOn_207 : decode cL_goOn 207 = .ok (.iload 8, 2) := by decide +kernel
theorem dL_goOn_209 : decode cL_goOn 209 = .ok (.imul, 1) := by decide +kernel
theorem dL_goOn_210 : decode cL_goOn 210 = .ok (.iaload, 1) := by decide +kernel
theorem dL_goOn_211 : decode cL_goOn 211 = .ok (.iload 9, 2) := by decide +kernel
theorem dL_goOn_213 : decode cL_goOn 213 = .ok (.isub, 1) := by decide +kernel
theorem dL_goOn_214 : decode cL_goOn 214 = .ok (.iastore, 1) := by decide +kernel
theorem dL_goOn_215 : decode cL_goOn 215 = .ok (.aload_n 0, 1) := by decide +kernel
theorem dL_goOn_216 : decode cL_goOn 216 = .ok (.iload 8, 2) := by decide +kernel
theorem dL_goOn_218 : decode cL_goOn 218 = .ok (.invokestatic 36, 3) := by decide +kernel
theorem dL_goOn_221 : decode cL_goOn 221 = .ok (.ifCond .eq 20, 3) := by decide +kernel
theorem dL_goOn_224 : decode cL_goOn 224 = .ok (.aload_n 1, 1) := by decide +kernel
theorem dL_goOn_225 : decode cL_goOn 225 = .ok (.iconst 4, 1) := by decide +kernel
theorem dL_goOn_226 : decode cL_goOn 226 = .ok (.iload 8, 2) := by decide +kernel
theorem dL_goOn_228 : decode cL_goOn 228 = .ok (.imul, 1) := by decide +kernel
theorem dL_goOn_229 : decode cL_goOn 229 = .ok (.iaload, 1) := by decide +kernel
theorem dL_goOn_230 : decode cL_goOn 230 = .ok (.ifCond .ne 11, 3) := by decide +kernel
theorem dL_goOn_233 : decode cL_goOn 233 = .ok (.aload_n 3, 1) := by decide +kernel
theorem dL_goOn_234 : decode cL_goOn 234 = .ok (.iconst 0, 1) := by decide +kernel
theorem dL_goOn_235 : decode cL_goOn 235 = .ok (.iload 8, 2) := by decide +kernel
theorem dL_goOn_237 : decode cL_goOn 237 = .ok (.iastore, 1) := by decide +kernel
theorem dL_goOn_238 : decode cL_goOn 238 = .ok (.goto 58, 3) := by decide +kernel
theorem dL_goOn_241 : decode cL_goOn 241 = .ok (.aload_n 1, 1) := by decide +kernel
theorem dL_goOn_242 : decode cL_goOn 242 = .ok (.iload 8, 2) := by decide +kernel
theorem dL_goOn_244 : decode cL_goOn 244 = .ok (.invokestatic 44, 3) := by decide +kernel
theorem dL_goOn_247 : decode cL_goOn 247 = .ok (.iconst 0, 1) := by decide +kernel
theorem dL_goOn_248 : decode cL_goOn 248 = .ok (.istore 7, 2) := by decide +kernel
theorem dL_goOn_250 : decode cL_goOn 250 = .ok (.iconst 0, 1) := by decide +kernel
theorem dL_goOn_251 : decode cL_goOn 251 = .ok (.istore 10, 2) := by decide +kernel
theorem dL_goOn_253 : decode cL_goOn 253 = .ok (.iconst 0, 1) := by decide +kernel
theorem dL_goOn_254 : decode cL_goOn 254 = .ok (.istore 11, 2) := by decide +kernel
theorem dL_goOn_256 : decode cL_goOn 256 = .ok (.iload 11, 2) := by decide +kernel
theorem dL_goOn_258 : decode cL_goOn 258 = .ok (.iload 5, 2) := by decide +kernel
theorem dL_goOn_260 : decode cL_goOn 260 = .ok (.if_icmp .ge 30, 3) := by decide +kernel
theorem dL_goOn_263 : decode cL_goOn 263 = .ok (.iload 10, 2) := by decide +kernel
theorem dL_goOn_265 : decode cL_goOn 265 = .ok (.ifCond .ne 12, 3) := by decide +kernel
theorem dL_goOn_268 : decode cL_goOn 268 = .ok (.aload_n 0, 1) := by decide +kernel
theorem dL_goOn_269 : decode cL_goOn 269 = .ok (.iload 11, 2) := by decide +kernel
theorem dL_goOn_271 : decode cL_goOn 271 = .ok (.invokestatic 36, 3) := by decide +kernel
theorem dL_goOn_274 : decode cL_goOn 274 = .ok (.ifCond .eq 7, 3) := by decide +kernel
theorem dL_goOn_277 : decode cL_goOn 277 = .ok (.iconst 1, 1) := by decide +kernel
theorem dL_goOn_278 : decode cL_goOn 278 = .ok (.goto 4, 3) := by decide +kernel
theorem dL_goOn_281 : decode cL_goOn 281 = .ok (.iconst 0, 1) := by decide +kernel
theorem dL_goOn_282 : decode cL_goOn 282 = .ok (.istore 10, 2) := by decide +kernel
theorem dL_goOn_284 : decode cL_goOn 284 = .ok (.iinc 11 1, 3) := by decide +kernel
theorem dL_goOn_287 : decode cL_goOn 287 = .ok (.goto (-31), 3) := by decide +kernel
theorem dL_goOn_290 : decode cL_goOn 290 = .ok (.iload 10, 2) := by decide +kernel
theorem dL_goOn_292 : decode cL_goOn 292 = .ok (.ifCond .ne 4, 3) := by decide +kernel
theorem dL_goOn_295 : decode cL_goOn 295 = .ok (.return_, 1) := by decide +kernel
theorem dL_goOn_296 : decode cL_goOn 296 = .ok (.iinc 7 1, 3) := by decide +kernel
theorem dL_goOn_299 : decode cL_goOn 299 = .ok (.goto (-283), 3) := by decide +kernel
theorem dL_goOn_302 : decode cL_goOn 302 = .ok (.return_, 1) := by decide +kernel
theorem dL_endTurn_0 : decode cL_endTurn 0 = .ok (.aload_n 3, 1) := by decide +kernel
theorem dL_endTurn_1 : decode cL_endTurn 1 = .ok (.iconst 0, 1) := by decide +kernel
theorem dL_endTurn_2 : decode cL_endTurn 2 = .ok (.iaload, 1) := by decide +kernel
theorem dL_endTurn_3 : decode cL_endTurn 3 = .ok (.istore 4, 2) := by decide +kernel
theorem dL_endTurn_5 : decode cL_endTurn 5 = .ok (.aload_n 1, 1) := by decide +kernel
theorem dL_endTurn_6 : decode cL_endTurn 6 = .ok (.iload 4, 2) := by decide +kernel
theorem dL_endTurn_8 : decode cL_endTurn 8 = .ok (.invokestatic 44, 3) := by decide +kernel
theorem dL_endTurn_11 : decode cL_endTurn 11 = .ok (.iconst 0, 1) := by decide +kernel
theorem dL_endTurn_12 : decode cL_endTurn 12 = .ok (.istore 5, 2) := by decide +kernel
theorem dL_endTurn_14 : decode cL_endTurn 14 = .ok (.iconst 0, 1) := by decide +kernel
theorem dL_endTurn_15 : decode cL_endTurn 15 = .ok (.istore 6, 2) := by decide +kernel
theorem dL_endTurn_17 : decode cL_endTurn 17 = .ok (.iload 6, 2) := by decide +kernel
theorem dL_endTurn_19 : decode cL_endTurn 19 = .ok (.aload_n 3, 1) := by decide +kernel
theorem dL_endTurn_20 : decode cL_endTurn 20 = .ok (.iconst 5, 1) := by decide +kernel
theorem dL_endTurn_21 : decode cL_endTurn 21 = .ok (.iaload, 1) := by decide +kernel
theorem dL_endTurn_22 : decode cL_endTurn 22 = .ok (.if_icmp .ge 30, 3) := by decide +kernel
theorem dL_endTurn_25 : decode cL_endTurn 25 = .ok (.iload 5, 2) := by decide +kernel
theorem dL_endTurn_27 : decode cL_endTurn 27 = .ok (.ifCond .ne 12, 3) := by decide +kernel
theorem dL_endTurn_30 : decode cL_endTurn 30 = .ok (.aload_n 0, 1) := by decide +kernel
theorem dL_endTurn_31 : decode cL_endTurn 31 = .ok (.iload 6, 2) := by decide +kernel
theorem dL_endTurn_33 : decode cL_endTurn 33 = .ok (.invokestatic 36, 3) := by decide +kernel
theorem dL_endTurn_36 : decode cL_endTurn 36 = .ok (.ifCond .eq 7, 3) := by decide +kernel
theorem dL_endTurn_39 : decode cL_endTurn 39 = .ok (.iconst 1, 1) := by decide +kernel
theorem dL_endTurn_40 : decode cL_endTurn 40 = .ok (.goto 4, 3) := by decide +kernel
theorem dL_endTurn_43 : decode cL_endTurn 43 = .ok (.iconst 0, 1) := by decide +kernel
theorem dL_endTurn_44 : decode cL_endTurn 44 = .ok (.istore 5, 2) := by decide +kernel
theorem dL_endTurn_46 : decode cL_endTurn 46 = .ok (.iinc 6 1, 3) := by decide +kernel
theorem dL_endTurn_49 : decode cL_endTurn 49 = .ok (.goto (-32), 3) := by decide +kernel
theorem dL_endTurn_52 : decode cL_endTurn 52 = .ok (.iload 5, 2) := by decide +kernel
theorem dL_endTurn_54 : decode cL_endTurn 54 = .ok (.ifCond .eq 19, 3) := by decide +kernel
theorem dL_endTurn_57 : decode cL_endTurn 57 = .ok (.aload_n 0, 1) := by decide +kernel
theorem dL_endTurn_58 : decode cL_endTurn 58 = .ok (.aload_n 1, 1) := by decide +kernel
theorem dL_endTurn_59 : decode cL_endTurn 59 = .ok (.aload_n 2, 1) := by decide +kernel
theorem dL_endTurn_60 : decode cL_endTurn 60 = .ok (.aload_n 3, 1) := by decide +kernel
theorem dL_endTurn_61 : decode cL_endTurn 61 = .ok (.aload_n 2, 1) := by decide +kernel
theorem dL_endTurn_62 : decode cL_endTurn 62 = .ok (.iload 4, 2) := by decide +kernel
theorem dL_endTurn_64 : decode cL_endTurn 64 = .ok (.invokestatic 47, 3) := by decide +kernel
theorem dL_endTurn_67 : decode cL_endTurn 67 = .ok (.invokestatic 50, 3) := by decide +kernel
theorem dL_endTurn_70 : decode cL_endTurn 70 = .ok (.goto 7, 3) := by decide +kernel
theorem dL_endTurn_73 : decode cL_endTurn 73 = .ok (.aload_n 3, 1) := by decide +kernel
theorem dL_endTurn_74 : decode cL_endTurn 74 = .ok (.iconst 0, 1) := by decide +kernel
theorem dL_endTurn_75 : decode cL_endTurn 75 = .ok (.iconst (-1), 1) := by decide +kernel
theorem dL_endTurn_76 : decode cL_endTurn 76 = .ok (.iastore, 1) := by decide +kernel
theorem dL_endTurn_77 : decode cL_endTurn 77 = .ok (.return_, 1) := by decide +kernel
theorem dL_stand_0 : decode cL_stand 0 = .ok (.bipush 6, 2) := by decide +kernel
theorem dL_stand_2 : decode cL_stand 2 = .ok (.newarray .int, 2) := by decide +kernel
theorem dL_stand_4 : decode cL_stand 4 = .ok (.astore 6, 2) := by decide +kernel
theorem dL_stand_6 : decode cL_stand 6 = .ok (.iconst 0, 1) := by decide +kernel
theorem dL_stand_7 : decode cL_stand 7 = .ok (.istore 7, 2) := by decide +kernel
theorem dL_stand_9 : decode cL_stand 9 = .ok (.iconst 0, 1) := by decide +kernel
theorem dL_stand_10 : decode cL_stand 10 = .ok (.istore 8, 2) := by decide +kernel
theorem dL_stand_12 : decode cL_stand 12 = .ok (.iload 8, 2) := by decide +kernel
theorem dL_stand_14 : decode cL_stand 14 = .ok (.iload_n 2, 1) := by decide +kernel
theorem dL_stand_15 : decode cL_stand 15 = .ok (.if_icmp .ge 75, 3) := by decide +kernel
theorem dL_stand_18 : decode cL_stand 18 = .ok (.aload_n 1, 1) := by decide +kernel
theorem dL_stand_19 : decode cL_stand 19 = .ok (.iload 8, 2) := by decide +kernel
theorem dL_stand_21 : decode cL_stand 21 = .ok (.iaload, 1) := by decide +kernel
theorem dL_stand_22 : decode cL_stand 22 = .ok (.iload 4, 2) := by decide +kernel
theorem dL_stand_24 : decode cL_stand 24 = .ok (.if_icmp .ne 17, 3) := by decide +kernel
theorem dL_stand_27 : decode cL_stand 27 = .ok (.iload 5, 2) := by decide +kernel
theorem dL_stand_29 : decode cL_stand 29 = .ok (.ifCond .ne 12, 3) := by decide +kernel
theorem dL_stand_32 : decode cL_stand 32 = .ok (.aload 6, 2) := by decide +kernel
theorem dL_stand_34 : decode cL_stand 34 = .ok (.iload 7, 2) := by decide +kernel
theorem dL_stand_36 : decode cL_stand 36 = .ok (.iinc 7 1, 3) := by decide +kernel
theorem dL_stand_39 : decode cL_stand 39 = .ok (.iload_n 3, 1) := by decide +kernel
theorem dL_stand_40 : decode cL_stand 40 = .ok (.iastore, 1) := by decide +kernel
theorem dL_stand_41 : decode cL_stand 41 = .ok (.aload_n 1, 1) := by decide +kernel
theorem dL_stand_42 : decode cL_stand 42 = .ok (.iload 8, 2) := by decide +kernel
theorem dL_stand_44 : decode cL_stand 44 = .ok (.iaload, 1) := by decide +kernel
theorem dL_stand_45 : decode cL_stand 45 = .ok (.iload_n 3, 1) := by decide +kernel
theorem dL_stand_46 : decode cL_stand 46 = .ok (.if_icmp .eq 15, 3) := by decide +kernel
theorem dL_stand_49 : decode cL_stand 49 = .ok (.aload 6, 2) := by decide +kernel
theorem dL_stand_51 : decode cL_stand 51 = .ok (.iload 7, 2) := by decide +kernel
theorem dL_stand_53 : decode cL_stand 53 = .ok (.iinc 7 1, 3) := by decide +kernel
theorem dL_stand_56 : decode cL_stand 56 = .ok (.aload_n 1, 1) := by decide +kernel
theorem dL_stand_57 : decode cL_stand 57 = .ok (.iload 8, 2) := by decide +kernel
theorem dL_stand_59 : decode cL_stand 59 = .ok (.iaload, 1) := by decide +kernel
theorem dL_stand_60 : decode cL_stand 60 = .ok (.iastore, 1) := by decide +kernel
theorem dL_stand_61 : decode cL_stand 61 = .ok (.aload_n 1, 1) := by decide +kernel
theorem dL_stand_62 : decode cL_stand 62 = .ok (.iload 8, 2) := by decide +kernel
theorem dL_stand_64 : decode cL_stand 64 = .ok (.iaload, 1) := by decide +kernel
theorem dL_stand_65 : decode cL_stand 65 = .ok (.iload 4, 2) := by decide +kernel
theorem dL_stand_67 : decode cL_stand 67 = .ok (.if_icmp .ne 17, 3) := by decide +kernel
theorem dL_stand_70 : decode cL_stand 70 = .ok (.iload 5, 2) := by decide +kernel
theorem dL_stand_72 : decode cL_stand 72 = .ok (.ifCond .eq 12, 3) := by decide +kernel
theorem dL_stand_75 : decode cL_stand 75 = .ok (.aload 6, 2) := by decide +kernel
theorem dL_stand_77 : decode cL_stand 77 = .ok (.iload 7, 2) := by decide +kernel
theorem dL_stand_79 : decode cL_stand 79 = .ok (.iinc 7 1, 3) := by decide +kernel
theorem dL_stand_82 : decode cL_stand 82 = .ok (.iload_n 3, 1) := by decide +kernel
theorem dL_stand_83 : decode cL_stand 83 = .ok (.iastore, 1) := by decide +kernel
theorem dL_stand_84 : decode cL_stand 84 = .ok (.iinc 8 1, 3) := by decide +kernel
theorem dL_stand_87 : decode cL_stand 87 = .ok (.goto (-75), 3) := by decide +kernel
theorem dL_stand_90 : decode cL_stand 90 = .ok (.iconst 0, 1) := by decide +kernel
theorem dL_stand_91 : decode cL_stand 91 = .ok (.istore 8, 2) := by decide +kernel
theorem dL_stand_93 : decode cL_stand 93 = .ok (.iload 8, 2) := by decide +kernel
theorem dL_stand_95 : decode cL_stand 95 = .ok (.iload_n 2, 1) := by decide +kernel
theorem dL_stand_96 : decode cL_stand 96 = .ok (.if_icmp .ge 18, 3) := by decide +kernel
theorem dL_stand_99 : decode cL_stand 99 = .ok (.aload_n 1, 1) := by decide +kernel
theorem dL_stand_100 : decode cL_stand 100 = .ok (.iload 8, 2) := by decide +kernel
theorem dL_stand_102 : decode cL_stand 102 = .ok (.aload 6, 2) := by decide +kernel
theorem dL_stand_104 : decode cL_stand 104 = .ok (.iload 8, 2) := by decide +kernel
theorem dL_stand_106 : decode cL_stand 106 = .ok (.iaload, 1) := by decide +kernel
theorem dL_stand_107 : decode cL_stand 107 = .ok (.iastore, 1) := by decide +kernel
theorem dL_stand_108 : decode cL_stand 108 = .ok (.iinc 8 1, 3) := by decide +kernel
theorem dL_stand_111 : decode cL_stand 111 = .ok (.goto (-18), 3) := by decide +kernel
theorem dL_stand_114 : decode cL_stand 114 = .ok (.aload_n 0, 1) := by decide +kernel
theorem dL_stand_115 : decode cL_stand 115 = .ok (.bipush 8, 2) := by decide +kernel
theorem dL_stand_117 : decode cL_stand 117 = .ok (.iload_n 3, 1) := by decide +kernel
theorem dL_stand_118 : decode cL_stand 118 = .ok (.imul, 1) := by decide +kernel
theorem dL_stand_119 : decode cL_stand 119 = .ok (.iconst 2, 1) := by decide +kernel
theorem dL_stand_120 : decode cL_stand 120 = .ok (.iadd, 1) := by decide +kernel
theorem dL_stand_121 : decode cL_stand 121 = .ok (.aload_n 0, 1) := by decide +kernel
theorem dL_stand_122 : decode cL_stand 122 = .ok (.bipush 8, 2) := by decide +kernel
theorem dL_stand_124 : decode cL_stand 124 = .ok (.iload 4, 2) := by decide +kernel
theorem dL_stand_126 : decode cL_stand 126 = .ok (.imul, 1) := by decide +kernel
theorem dL_stand_127 : decode cL_stand 127 = .ok (.iconst 2, 1) := by decide +kernel
theorem dL_stand_128 : decode cL_stand 128 = .ok (.iadd, 1) := by decide +kernel
theorem dL_stand_129 : decode cL_stand 129 = .ok (.iaload, 1) := by decide +kernel
theorem dL_stand_130 : decode cL_stand 130 = .ok (.iastore, 1) := by decide +kernel
theorem dL_stand_131 : decode cL_stand 131 = .ok (.return_, 1) := by decide +kernel
theorem dL_can_0 : decode cL_can 0 = .ok (.iload 4, 2) := by decide +kernel
theorem dL_can_2 : decode cL_can 2 = .ok (.iconst 1, 1) := by decide +kernel
theorem dL_can_3 : decode cL_can 3 = .ok (.if_icmp .ne 17, 3) := by decide +kernel
theorem dL_can_6 : decode cL_can 6 = .ok (.iload 5, 2) := by decide +kernel
theorem dL_can_8 : decode cL_can 8 = .ok (.aload_n 1, 1) := by decide +kernel
theorem dL_can_9 : decode cL_can 9 = .ok (.bipush 8, 2) := by decide +kernel
theorem dL_can_11 : decode cL_can 11 = .ok (.iload_n 3, 1) := by decide +kernel
theorem dL_can_12 : decode cL_can 12 = .ok (.imul, 1) := by decide +kernel
theorem dL_can_13 : decode cL_can 13 = .ok (.iconst 1, 1) := by decide +kernel
theorem dL_can_14 : decode cL_can 14 = .ok (.iadd, 1) := by decide +kernel
theorem dL_can_15 : decode cL_can 15 = .ok (.iaload, 1) := by decide +kernel
theorem dL_can_16 : decode cL_can 16 = .ok (.isub, 1) := by decide +kernel
theorem dL_can_17 : decode cL_can 17 = .ok (.goto 32, 3) := by decide +kernel
theorem dL_can_20 : decode cL_can 20 = .ok (.iload 5, 2) := by decide +kernel
theorem dL_can_22 : decode cL_can 22 = .ok (.iload_n 3, 1) := by decide +kernel
theorem dL_can_23 : decode cL_can 23 = .ok (.if_icmp .ne 8, 3) := by decide +kernel
theorem dL_can_26 : decode cL_can 26 = .ok (.bipush 99, 2) := by decide +kernel
theorem dL_can_28 : decode cL_can 28 = .ok (.goto 21, 3) := by decide +kernel
theorem dL_can_31 : decode cL_can 31 = .ok (.aload_n 1, 1) := by decide +kernel
theorem dL_can_32 : decode cL_can 32 = .ok (.bipush 8, 2) := by decide +kernel
theorem dL_can_34 : decode cL_can 34 = .ok (.iload 5, 2) := by decide +kernel
theorem dL_can_36 : decode cL_can 36 = .ok (.imul, 1) := by decide +kernel
theorem dL_can_37 : decode cL_can 37 = .ok (.iconst 1, 1) := by decide +kernel
theorem dL_can_38 : decode cL_can 38 = .ok (.iadd, 1) := by decide +kernel
theorem dL_can_39 : decode cL_can 39 = .ok (.iaload, 1) := by decide +kernel
theorem dL_can_40 : decode cL_can 40 = .ok (.aload_n 1, 1) := by decide +kernel
theorem dL_can_41 : decode cL_can 41 = .ok (.bipush 8, 2) := by decide +kernel
theorem dL_can_43 : decode cL_can 43 = .ok (.iload_n 3, 1) := by decide +kernel
theorem dL_can_44 : decode cL_can 44 = .ok (.imul, 1) := by decide +kernel
theorem dL_can_45 : decode cL_can 45 = .ok (.iconst 1, 1) := by decide +kernel
theorem dL_can_46 : decode cL_can 46 = .ok (.iadd, 1) := by decide +kernel
theorem dL_can_47 : decode cL_can 47 = .ok (.iaload, 1) := by decide +kernel
theorem dL_can_48 : decode cL_can 48 = .ok (.isub, 1) := by decide +kernel
theorem dL_can_49 : decode cL_can 49 = .ok (.istore 6, 2) := by decide +kernel
theorem dL_can_51 : decode cL_can 51 = .ok (.iload 6, 2) := by decide +kernel
theorem dL_can_53 : decode cL_can 53 = .ok (.ifCond .ge 9, 3) := by decide +kernel
theorem dL_can_56 : decode cL_can 56 = .ok (.iload 6, 2) := by decide +kernel
theorem dL_can_58 : decode cL_can 58 = .ok (.ineg, 1) := by decide +kernel
theorem dL_can_59 : decode cL_can 59 = .ok (.goto 5, 3) := by decide +kernel
theorem dL_can_62 : decode cL_can 62 = .ok (.iload 6, 2) := by decide +kernel
theorem dL_can_64 : decode cL_can 64 = .ok (.istore 6, 2) := by decide +kernel
theorem dL_can_66 : decode cL_can 66 = .ok (.iload 4, 2) := by decide +kernel
theorem dL_can_68 : decode cL_can 68 = .ok (.iconst 1, 1) := by decide +kernel
theorem dL_can_69 : decode cL_can 69 = .ok (.if_icmp .ne 29, 3) := by decide +kernel
theorem dL_can_72 : decode cL_can 72 = .ok (.iload 6, 2) := by decide +kernel
theorem dL_can_74 : decode cL_can 74 = .ok (.aload_n 2, 1) := by decide +kernel
theorem dL_can_75 : decode cL_can 75 = .ok (.iconst 4, 1) := by decide +kernel
theorem dL_can_76 : decode cL_can 76 = .ok (.iload_n 3, 1) := by decide +kernel
theorem dL_can_77 : decode cL_can 77 = .ok (.imul, 1) := by decide +kernel
theorem dL_can_78 : decode cL_can 78 = .ok (.iconst 1, 1) := by decide +kernel
theorem dL_can_79 : decode cL_can 79 = .ok (.iadd, 1) := by decide +kernel
theorem dL_can_80 : decode cL_can 80 = .ok (.iaload, 1) := by decide +kernel
theorem dL_can_81 : decode cL_can 81 = .ok (.ifCond .le 7, 3) := by decide +kernel
theorem dL_can_84 : decode cL_can 84 = .ok (.iconst 1, 1) := by decide +kernel
theorem dL_can_85 : decode cL_can 85 = .ok (.goto 4, 3) := by decide +kernel
theorem dL_can_88 : decode cL_can 88 = .ok (.iconst 3, 1) := by decide +kernel
theorem dL_can_89 : decode cL_can 89 = .ok (.if_icmp .gt 7, 3) := by decide +kernel
theorem dL_can_92 : decode cL_can 92 = .ok (.iconst 1, 1) := by decide +kernel
theorem dL_can_93 : decode cL_can 93 = .ok (.goto 4, 3) := by decide +kernel
theorem dL_can_96 : decode cL_can 96 = .ok (.iconst 0, 1) := by decide +kernel
theorem dL_can_97 : decode cL_can 97 = .ok (.ireturn, 1) := by decide +kernel
theorem dL_can_98 : decode cL_can 98 = .ok (.aload_n 0, 1) := by decide +kernel
theorem dL_can_99 : decode cL_can 99 = .ok (.iload_n 3, 1) := by decide +kernel
theorem dL_can_100 : decode cL_can 100 = .ok (.iconst 0, 1) := by decide +kernel
theorem dL_can_101 : decode cL_can 101 = .ok (.invokevirtual 26, 3) := by decide +kernel
theorem dL_can_104 : decode cL_can 104 = .ok (.aload_n 0, 1) := by decide +kernel
theorem dL_can_105 : decode cL_can 105 = .ok (.iload 5, 2) := by decide +kernel
theorem dL_can_107 : decode cL_can 107 = .ok (.iconst 0, 1) := by decide +kernel
theorem dL_can_108 : decode cL_can 108 = .ok (.invokevirtual 26, 3) := by decide +kernel
theorem dL_can_111 : decode cL_can 111 = .ok (.if_icmp .ne 7, 3) := by decide +kernel
theorem dL_can_114 : decode cL_can 114 = .ok (.iconst 1, 1) := by decide +kernel
theorem dL_can_115 : decode cL_can 115 = .ok (.goto 4, 3) := by decide +kernel
theorem dL_can_118 : decode cL_can 118 = .ok (.iconst 0, 1) := by decide +kernel
theorem dL_can_119 : decode cL_can 119 = .ok (.istore 7, 2) := by decide +kernel
theorem dL_can_121 : decode cL_can 121 = .ok (.iload 5, 2) := by decide +kernel
theorem dL_can_123 : decode cL_can 123 = .ok (.iload_n 3, 1) := by decide +kernel
theorem dL_can_124 : decode cL_can 124 = .ok (.if_icmp .eq 46, 3) := by decide +kernel
theorem dL_can_127 : decode cL_can 127 = .ok (.aload_n 1, 1) := by decide +kernel
theorem dL_can_128 : decode cL_can 128 = .ok (.iload 5, 2) := by decide +kernel
theorem dL_can_130 : decode cL_can 130 = .ok (.invokestatic 36, 3) := by decide +kernel
theorem dL_can_133 : decode cL_can 133 = .ok (.ifCond .eq 37, 3) := by decide +kernel
theorem dL_can_136 : decode cL_can 136 = .ok (.iload 4, 2) := by decide +kernel
theorem dL_can_138 : decode cL_can 138 = .ok (.iconst 3, 1) := by decide +kernel
theorem dL_can_139 : decode cL_can 139 = .ok (.if_icmp .ne 11, 3) := by decide +kernel
theorem dL_can_142 : decode cL_can 142 = .ok (.iload 7, 2) := by decide +kernel
theorem dL_can_144 : decode cL_can 144 = .ok (.ifCond .ne 26, 3) := by decide +kernel
theorem dL_can_147 : decode cL_can 147 = .ok (.goto 19, 3) := by decide +kernel
theorem dL_can_150 : decode cL_can 150 = .ok (.iload 6, 2) := by decide +kernel
theorem dL_can_152 : decode cL_can 152 = .ok (.iconst 2, 1) := by decide +kernel
theorem dL_can_153 : decode cL_can 153 = .ok (.if_icmp .gt 17, 3) := by decide +kernel
theorem dL_can_156 : decode cL_can 156 = .ok (.iload 4, 2) := by decide +kernel
theorem dL_can_158 : decode cL_can 158 = .ok (.ifCond .eq 8, 3) := by decide +kernel
theorem dL_can_161 : decode cL_can 161 = .ok (.iload 7, 2) := by decide +kernel
theorem dL_can_163 : decode cL_can 163 = .ok (.ifCond .eq 7, 3) := by decide +kernel
theorem dL_can_166 : decode cL_can 166 = .ok (.iconst 1, 1) := by decide +kernel
theorem dL_can_167 : decode cL_can 167 = .ok (.goto 4, 3) := by decide +kernel
theorem dL_can_170 : decode cL_can 170 = .ok (.iconst 0, 1) := by decide +kernel
theorem dL_can_171 : decode cL_can 171 = .ok (.ireturn, 1) := by decide +kernel
theorem dL_does_0 : decode cL_does 0 = .ok (.aload_n 3, 1) := by decide +kernel
theorem dL_does_1 : decode cL_does 1 = .ok (.iconst 2, 1) := by decide +kernel
theorem dL_does_2 : decode cL_does 2 = .ok (.dup2, 1) := by decide +kernel
theorem dL_does_3 : decode cL_does 3 = .ok (.iaload, 1) := by decide +kernel
theorem dL_does_4 : decode cL_does 4 = .ok (.iconst 1, 1) := by decide +kernel
theorem dL_does_5 : decode cL_does 5 = .ok (.iadd, 1) := by decide +kernel
theorem dL_does_6 : decode cL_does 6 = .ok (.iastore, 1) := by decide +kernel
theorem dL_does_7 : decode cL_does 7 = .ok (.aload_n 0, 1) := by decide +kernel
theorem dL_does_8 : decode cL_does 8 = .ok (.iload 4, 2) := by decide +kernel
theorem dL_does_10 : decode cL_does 10 = .ok (.iconst 4, 1) := by decide +kernel
theorem dL_does_11 : decode cL_does 11 = .ok (.invokevirtual 26, 3) := by decide +kernel
theorem dL_does_14 : decode cL_does 14 = .ok (.aload_n 2, 1) := by decide +kernel
theorem dL_does_15 : decode cL_does 15 = .ok (.iconst 4, 1) := by decide +kernel
theorem dL_does_16 : decode cL_does 16 = .ok (.iload 4, 2) := by decide +kernel
theorem dL_does_18 : decode cL_does 18 = .ok (.imul, 1) := by decide +kernel
theorem dL_does_19 : decode cL_does 19 = .ok (.iconst 2, 1) := by decide +kernel
theorem dL_does_20 : decode cL_does 20 = .ok (.iadd, 1) := by decide +kernel
theorem dL_does_21 : decode cL_does 21 = .ok (.iaload, 1) := by decide +kernel
theorem dL_does_22 : decode cL_does 22 = .ok (.ifCond .le 7, 3) := by decide +kernel
theorem dL_does_25 : decode cL_does 25 = .ok (.iconst 3, 1) := by decide +kernel
theorem dL_does_26 : decode cL_does 26 = .ok (.goto 4, 3) := by decide +kernel
theorem dL_does_29 : decode cL_does 29 = .ok (.iconst 0, 1) := by decide +kernel
theorem dL_does_30 : decode cL_does 30 = .ok (.iadd, 1) := by decide +kernel
theorem dL_does_31 : decode cL_does 31 = .ok (.istore 9, 2) := by decide +kernel
theorem dL_does_33 : decode cL_does 33 = .ok (.aload_n 2, 1) := by decide +kernel
theorem dL_does_34 : decode cL_does 34 = .ok (.iconst 4, 1) := by decide +kernel
theorem dL_does_35 : decode cL_does 35 = .ok (.iload 4, 2) := by decide +kernel
theorem dL_does_37 : decode cL_does 37 = .ok (.imul, 1) := by decide +kernel
theorem dL_does_38 : decode cL_does 38 = .ok (.iconst 1, 1) := by decide +kernel
theorem dL_does_39 : decode cL_does 39 = .ok (.iadd, 1) := by decide +kernel
theorem dL_does_40 : decode cL_does 40 = .ok (.iaload, 1) := by decide +kernel
theorem dL_does_41 : decode cL_does 41 = .ok (.ifCond .le 10, 3) := by decide +kernel
theorem dL_does_44 : decode cL_does 44 = .ok (.iload 9, 2) := by decide +kernel
theorem dL_does_46 : decode cL_does 46 = .ok (.iconst 2, 1) := by decide +kernel
theorem dL_does_47 : decode cL_does 47 = .ok (.idiv, 1) := by decide +kernel
theorem dL_does_48 : decode cL_does 48 = .ok (.goto 5, 3) := by decide +kernel
theorem dL_does_51 : decode cL_does 51 = .ok (.iload 9, 2) := by decide +kernel
theorem dL_does_53 : decode cL_does 53 = .ok (.istore 9, 2) := by decide +kernel
theorem dL_does_55 : decode cL_does 55 = .ok (.iload 5, 2) := by decide +kernel
theorem dL_does_57 : decode cL_does 57 = .ok (.ifCond .ne 46, 3) := by decide +kernel
theorem dL_does_60 : decode cL_does 60 = .ok (.aload_n 1, 1) := by decide +kernel
theorem dL_does_61 : decode cL_does 61 = .ok (.bipush 8, 2) := by decide +kernel
theorem dL_does_63 : decode cL_does 63 = .ok (.iload 6, 2) := by decide +kernel
theorem dL_does_65 : decode cL_does 65 = .ok (.imul, 1) := by decide +kernel
theorem dL_does_66 : decode cL_does 66 = .ok (.iaload, 1) := by decide +kernel
theorem dL_does_67 : decode cL_does 67 = .ok (.istore 10, 2) := by decide +kernel
theorem dL_does_69 : decode cL_does 69 = .ok (.aload_n 1, 1) := by decide +kernel
theorem dL_does_70 : decode cL_does 70 = .ok (.bipush 8, 2) := by decide +kernel
theorem dL_does_72 : decode cL_does 72 = .ok (.iload 6, 2) := by decide +kernel
theorem dL_does_74 : decode cL_does 74 = .ok (.imul, 1) := by decide +kernel
theorem dL_does_75 : decode cL_does 75 = .ok (.iload 10, 2) := by decide +kernel
theorem dL_does_77 : decode cL_does 77 = .ok (.iload 9, 2) := by decide +kernel
theorem dL_does_79 : decode cL_does 79 = .ok (.if_icmp .ge 7, 3) := by decide +kernel
theorem dL_does_82 : decode cL_does 82 = .ok (.iconst 0, 1) := by decide +kernel
theorem dL_does_83 : decode cL_does 83 = .ok (.goto 8, 3) := by decide +kernel
theorem dL_does_86 : decode cL_does 86 = .ok (.iload 10, 2) := by decide +kernel
theorem dL_does_88 : decode cL_does 88 = .ok (.iload 9, 2) := by decide +kernel
theorem dL_does_90 : decode cL_does 90 = .ok (.isub, 1) := by decide +kernel
theorem dL_does_91 : decode cL_does 91 = .ok (.iastore, 1) := by decide +kernel
theorem dL_does_92 : decode cL_does 92 = .ok (.iload 10, 2) := by decide +kernel
theorem dL_does_94 : decode cL_does 94 = .ok (.aload_n 1, 1) := by decide +kernel
theorem dL_does_95 : decode cL_does 95 = .ok (.bipush 8, 2) := by decide +kernel
theorem dL_does_97 : decode cL_does 97 = .ok (.iload 6, 2) := by decide +kernel
theorem dL_does_99 : decode cL_does 99 = .ok (.imul, 1) := by decide +kernel
theorem dL_does_100 : decode cL_does 100 = .ok (.iaload, 1) := by decide +kernel
theorem dL_does_101 : decode cL_does 101 = .ok (.isub, 1) := by decide +kernel
theorem dL_does_102 : decode cL_does 102 = .ok (.ireturn, 1) := by decide +kernel
theorem dL_does_103 : decode cL_does 103 = .ok (.iload 5, 2) := by decide +kernel
theorem dL_does_105 : decode cL_does 105 = .ok (.iconst 1, 1) := by decide +kernel
theorem dL_does_106 : decode cL_does 106 = .ok (.if_icmp .ne 42, 3) := by decide +kernel
theorem dL_does_109 : decode cL_does 109 = .ok (.iload 6, 2) := by decide +kernel
theorem dL_does_111 : decode cL_does 111 = .ok (.aload_n 1, 1) := by decide +kernel
theorem dL_does_112 : decode cL_does 112 = .ok (.bipush 8, 2) := by decide +kernel
theorem dL_does_114 : decode cL_does 114 = .ok (.iload 4, 2) := by decide +kernel
theorem dL_does_116 : decode cL_does 116 = .ok (.imul, 1) := by decide +kernel
theorem dL_does_117 : decode cL_does 117 = .ok (.iconst 1, 1) := by decide +kernel
theorem dL_does_118 : decode cL_does 118 = .ok (.iadd, 1) := by decide +kernel
theorem dL_does_119 : decode cL_does 119 = .ok (.iaload, 1) := by decide +kernel
theorem dL_does_120 : decode cL_does 120 = .ok (.isub, 1) := by decide +kernel
theorem dL_does_121 : decode cL_does 121 = .ok (.istore 10, 2) := by decide +kernel
theorem dL_does_123 : decode cL_does 123 = .ok (.aload_n 1, 1) := by decide +kernel
theorem dL_does_124 : decode cL_does 124 = .ok (.bipush 8, 2) := by decide +kernel
theorem dL_does_126 : decode cL_does 126 = .ok (.iload 4, 2) := by decide +kernel
theorem dL_does_128 : decode cL_does 128 = .ok (.imul, 1) := by decide +kernel
theorem dL_does_129 : decode cL_does 129 = .ok (.iconst 1, 1) := by decide +kernel
theorem dL_does_130 : decode cL_does 130 = .ok (.iadd, 1) := by decide +kernel
theorem dL_does_131 : decode cL_does 131 = .ok (.iload 6, 2) := by decide +kernel
theorem dL_does_133 : decode cL_does 133 = .ok (.iastore, 1) := by decide +kernel
theorem dL_does_134 : decode cL_does 134 = .ok (.iload 10, 2) := by decide +kernel
theorem dL_does_136 : decode cL_does 136 = .ok (.ifCond .ge 9, 3) := by decide +kernel
theorem dL_does_139 : decode cL_does 139 = .ok (.iload 10, 2) := by decide +kernel
theorem dL_does_141 : decode cL_does 141 = .ok (.ineg, 1) := by decide +kernel
theorem dL_does_142 : decode cL_does 142 = .ok (.goto 5, 3) := by decide +kernel
theorem dL_does_145 : decode cL_does 145 = .ok (.iload 10, 2) := by decide +kernel
theorem dL_does_147 : decode cL_does 147 = .ok (.ireturn, 1) := by decide +kernel
theorem dL_does_148 : decode cL_does 148 = .ok (.iload 5, 2) := by decide +kernel
theorem dL_does_150 : decode cL_does 150 = .ok (.iconst 2, 1) := by decide +kernel
theorem dL_does_151 : decode cL_does 151 = .ok (.if_icmp .ne 64, 3) := by decide +kernel
theorem dL_does_154 : decode cL_does 154 = .ok (.aload_n 0, 1) := by decide +kernel
theorem dL_does_155 : decode cL_does 155 = .ok (.iload 6, 2) := by decide +kernel
theorem dL_does_157 : decode cL_does 157 = .ok (.iconst 3, 1) := by decide +kernel
theorem dL_does_158 : decode cL_does 158 = .ok (.invokevirtual 26, 3) := by decide +kernel
theorem dL_does_161 : decode cL_does 161 = .ok (.istore 10, 2) := by decide +kernel
theorem dL_does_163 : decode cL_does 163 = .ok (.aload_n 1, 1) := by decide +kernel
theorem dL_does_164 : decode cL_does 164 = .ok (.bipush 8, 2) := by decide +kernel
theorem dL_does_166 : decode cL_does 166 = .ok (.iload 6, 2) := by decide +kernel
theorem dL_does_168 : decode cL_does 168 = .ok (.imul, 1) := by decide +kernel
theorem dL_does_169 : decode cL_does 169 = .ok (.aload_n 1, 1) := by decide +kernel
theorem dL_does_170 : decode cL_does 170 = .ok (.bipush 8, 2) := by decide +kernel
theorem dL_does_172 : decode cL_does 172 = .ok (.iload 6, 2) := by decide +kernel
theorem dL_does_174 : decode cL_does 174 = .ok (.imul, 1) := by decide +kernel
theorem dL_does_175 : decode cL_does 175 = .ok (.iaload, 1) := by decide +kernel
theorem dL_does_176 : decode cL_does 176 = .ok (.iconst 4, 1) := by decide +kernel
theorem dL_does_177 : decode cL_does 177 = .ok (.iadd, 1) := by decide +kernel
theorem dL_does_178 : decode cL_does 178 = .ok (.iload 10, 2) := by decide +kernel
theorem dL_does_180 : decode cL_does 180 = .ok (.if_icmp .le 8, 3) := by decide +kernel
theorem dL_does_183 : decode cL_does 183 = .ok (.iload 10, 2) := by decide +kernel
theorem dL_does_185 : decode cL_does 185 = .ok (.goto 12, 3) := by decide +kernel
theorem dL_does_188 : decode cL_does 188 = .ok (.aload_n 1, 1) := by decide +kernel
theorem dL_does_189 : decode cL_does 189 = .ok (.bipush 8, 2) := by decide +kernel
theorem dL_does_191 : decode cL_does 191 = .ok (.iload 6, 2) := by decide +kernel
theorem dL_does_193 : decode cL_does 193 = .ok (.imul, 1) := by decide +kernel
theorem dL_does_194 : decode cL_does 194 = .ok (.iaload, 1) := by decide +kernel
theorem dL_does_195 : decode cL_does 195 = .ok (.iconst 4, 1) := by decide +kernel
theorem dL_does_196 : decode cL_does 196 = .ok (.iadd, 1) := by decide +kernel
theorem dL_does_197 : decode cL_does 197 = .ok (.iastore, 1) := by decide +kernel
theorem dL_does_198 : decode cL_does 198 = .ok (.aload_n 2, 1) := by decide +kernel
theorem dL_does_199 : decode cL_does 199 = .ok (.iconst 4, 1) := by decide +kernel
theorem dL_does_200 : decode cL_does 200 = .ok (.iload 6, 2) := by decide +kernel
theorem dL_does_202 : decode cL_does 202 = .ok (.imul, 1) := by decide +kernel
theorem dL_does_203 : decode cL_does 203 = .ok (.iconst 3, 1) := by decide +kernel
theorem dL_does_204 : decode cL_does 204 = .ok (.iadd, 1) := by decide +kernel
theorem dL_does_205 : decode cL_does 205 = .ok (.iconst 0, 1) := by decide +kernel
theorem dL_does_206 : decode cL_does 206 = .ok (.iastore, 1) := by decide +kernel
theorem dL_does_207 : decode cL_does 207 = .ok (.aload_n 1, 1) := by decide +kernel
theorem dL_does_208 : decode cL_does 208 = .ok (.bipush 8, 2) := by decide +kernel
theorem dL_does_210 : decode cL_does 210 = .ok (.iload 6, 2) := by decide +kernel
theorem dL_does_212 : decode cL_does 212 = .ok (.imul, 1) := by decide +kernel
theorem dL_does_213 : decode cL_does 213 = .ok (.iaload, 1) := by decide +kernel
theorem dL_does_214 : decode cL_does 214 = .ok (.ireturn, 1) := by decide +kernel
theorem dL_does_215 : decode cL_does 215 = .ok (.aload_n 2, 1) := by decide +kernel
theorem dL_does_216 : decode cL_does 216 = .ok (.iconst 4, 1) := by decide +kernel
theorem dL_does_217 : decode cL_does 217 = .ok (.iload 6, 2) := by decide +kernel
theorem dL_does_219 : decode cL_does 219 = .ok (.imul, 1) := by decide +kernel
theorem dL_does_220 : decode cL_does 220 = .ok (.iload 7, 2) := by decide +kernel
theorem dL_does_222 : decode cL_does 222 = .ok (.iadd, 1) := by decide +kernel
theorem dL_does_223 : decode cL_does 223 = .ok (.aload_n 2, 1) := by decide +kernel
theorem dL_does_224 : decode cL_does 224 = .ok (.iconst 4, 1) := by decide +kernel
theorem dL_does_225 : decode cL_does 225 = .ok (.iload 6, 2) := by decide +kernel
theorem dL_does_227 : decode cL_does 227 = .ok (.imul, 1) := by decide +kernel
theorem dL_does_228 : decode cL_does 228 = .ok (.iload 7, 2) := by decide +kernel
theorem dL_does_230 : decode cL_does 230 = .ok (.iadd, 1) := by decide +kernel
theorem dL_does_231 : decode cL_does 231 = .ok (.iaload, 1) := by decide +kernel
theorem dL_does_232 : decode cL_does 232 = .ok (.iload 8, 2) := by decide +kernel
theorem dL_does_234 : decode cL_does 234 = .ok (.if_icmp .ge 8, 3) := by decide +kernel
theorem dL_does_237 : decode cL_does 237 = .ok (.iload 8, 2) := by decide +kernel
theorem dL_does_239 : decode cL_does 239 = .ok (.goto 12, 3) := by decide +kernel
theorem dL_does_242 : decode cL_does 242 = .ok (.aload_n 2, 1) := by decide +kernel
theorem dL_does_243 : decode cL_does 243 = .ok (.iconst 4, 1) := by decide +kernel
theorem dL_does_244 : decode cL_does 244 = .ok (.iload 6, 2) := by decide +kernel
theorem dL_does_246 : decode cL_does 246 = .ok (.imul, 1) := by decide +kernel
theorem dL_does_247 : decode cL_does 247 = .ok (.iload 7, 2) := by decide +kernel
theorem dL_does_249 : decode cL_does 249 = .ok (.iadd, 1) := by decide +kernel
theorem dL_does_250 : decode cL_does 250 = .ok (.iaload, 1) := by decide +kernel
theorem dL_does_251 : decode cL_does 251 = .ok (.iastore, 1) := by decide +kernel
theorem dL_does_252 : decode cL_does 252 = .ok (.aload_n 2, 1) := by decide +kernel
theorem dL_does_253 : decode cL_does 253 = .ok (.iconst 4, 1) := by decide +kernel
theorem dL_does_254 : decode cL_does 254 = .ok (.iload 6, 2) := by decide +kernel
theorem dL_does_256 : decode cL_does 256 = .ok (.imul, 1) := by decide +kernel
theorem dL_does_257 : decode cL_does 257 = .ok (.iload 7, 2) := by decide +kernel
theorem dL_does_259 : decode cL_does 259 = .ok (.iadd, 1) := by decide +kernel
theorem dL_does_260 : decode cL_does 260 = .ok (.iaload, 1) := by decide +kernel
theorem dL_does_261 : decode cL_does 261 = .ok (.ireturn, 1) := by decide +kernel
theorem dL_act_0 : decode cL_act 0 = .ok (.aload 4, 2) := by decide +kernel
theorem dL_act_2 : decode cL_act 2 = .ok (.iconst 0, 1) := by decide +kernel
theorem dL_act_3 : decode cL_act 3 = .ok (.iaload, 1) := by decide +kernel
theorem dL_act_4 : decode cL_act 4 = .ok (.istore 9, 2) := by decide +kernel
theorem dL_act_6 : decode cL_act 6 = .ok (.aload 4, 2) := by decide +kernel
theorem dL_act_8 : decode cL_act 8 = .ok (.iconst 5, 1) := by decide +kernel
theorem dL_act_9 : decode cL_act 9 = .ok (.iaload, 1) := by decide +kernel
theorem dL_act_10 : decode cL_act 10 = .ok (.istore 10, 2) := by decide +kernel
theorem dL_act_12 : decode cL_act 12 = .ok (.bipush 6, 2) := by decide +kernel
theorem dL_act_14 : decode cL_act 14 = .ok (.newarray .int, 2) := by decide +kernel
theorem dL_act_16 : decode cL_act 16 = .ok (.astore 11, 2) := by decide +kernel
theorem dL_act_18 : decode cL_act 18 = .ok (.aload 4, 2) := by decide +kernel
theorem dL_act_20 : decode cL_act 20 = .ok (.bipush 6, 2) := by decide +kernel
theorem dL_act_22 : decode cL_act 22 = .ok (.iconst 0, 1) := by decide +kernel
theorem dL_act_23 : decode cL_act 23 = .ok (.iastore, 1) := by decide +kernel
theorem dL_act_24 : decode cL_act 24 = .ok (.iconst 0, 1) := by decide +kernel
theorem dL_act_25 : decode cL_act 25 = .ok (.istore 12, 2) := by decide +kernel
theorem dL_act_27 : decode cL_act 27 = .ok (.iload 12, 2) := by decide +kernel
theorem dL_act_29 : decode cL_act 29 = .ok (.iload 10, 2) := by decide +kernel
theorem dL_act_31 : decode cL_act 31 = .ok (.if_icmp .ge 111, 3) := by decide +kernel
theorem dL_act_34 : decode cL_act 34 = .ok (.aload_n 3, 1) := by decide +kernel
theorem dL_act_35 : decode cL_act 35 = .ok (.iload 12, 2) := by decide +kernel
theorem dL_act_37 : decode cL_act 37 = .ok (.iaload, 1) := by decide +kernel
theorem dL_act_38 : decode cL_act 38 = .ok (.istore 13, 2) := by decide +kernel
theorem dL_act_40 : decode cL_act 40 = .ok (.aload_n 1, 1) := by decide +kernel
theorem dL_act_41 : decode cL_act 41 = .ok (.bipush 8, 2) := by decide +kernel
theorem dL_act_43 : decode cL_act 43 = .ok (.iload 13, 2) := by decide +kernel
theorem dL_act_45 : decode cL_act 45 = .ok (.imul, 1) := by decide +kernel
theorem dL_act_46 : decode cL_act 46 = .ok (.bipush 6, 2) := by decide +kernel
theorem dL_act_48 : decode cL_act 48 = .ok (.iadd, 1) := by decide +kernel
theorem dL_act_49 : decode cL_act 49 = .ok (.iaload, 1) := by decide +kernel
theorem dL_act_50 : decode cL_act 50 = .ok (.istore 14, 2) := by decide +kernel
theorem dL_act_52 : decode cL_act 52 = .ok (.aload_n 1, 1) := by decide +kernel
theorem dL_act_53 : decode cL_act 53 = .ok (.iload 13, 2) := by decide +kernel
theorem dL_act_55 : decode cL_act 55 = .ok (.invokestatic 36, 3) := by decide +kernel
theorem dL_act_58 : decode cL_act 58 = .ok (.ifCond .eq 78, 3) := by decide +kernel
theorem dL_act_61 : decode cL_act 61 = .ok (.aload_n 1, 1) := by decide +kernel
theorem dL_act_62 : decode cL_act 62 = .ok (.bipush 8, 2) := by decide +kernel
theorem dL_act_64 : decode cL_act 64 = .ok (.iload 13, 2) := by decide +kernel
theorem dL_act_66 : decode cL_act 66 = .ok (.imul, 1) := by decide +kernel
theorem dL_act_67 : decode cL_act 67 = .ok (.iconst 4, 1) := by decide +kernel
theorem dL_act_68 : decode cL_act 68 = .ok (.iadd, 1) := by decide +kernel
theorem dL_act_69 : decode cL_act 69 = .ok (.iaload, 1) := by decide +kernel
theorem dL_act_70 : decode cL_act 70 = .ok (.ifCond .lt 66, 3) := by decide +kernel
theorem dL_act_73 : decode cL_act 73 = .ok (.aload_n 1, 1) := by decide +kernel
theorem dL_act_74 : decode cL_act 74 = .ok (.bipush 8, 2) := by decide +kernel
theorem dL_act_76 : decode cL_act 76 = .ok (.iload 13, 2) := by decide +kernel
theorem dL_act_78 : decode cL_act 78 = .ok (.imul, 1) := by decide +kernel
theorem dL_act_79 : decode cL_act 79 = .ok (.bipush 7, 2) := by decide +kernel
theorem dL_act_81 : decode cL_act 81 = .ok (.iadd, 1) := by decide +kernel
theorem dL_act_82 : decode cL_act 82 = .ok (.iaload, 1) := by decide +kernel
theorem dL_act_83 : decode cL_act 83 = .ok (.iload 5, 2) := by decide +kernel
theorem dL_act_85 : decode cL_act 85 = .ok (.if_icmp .ne 51, 3) := by decide +kernel
theorem dL_act_88 : decode cL_act 88 = .ok (.iload 14, 2) := by decide +kernel
theorem dL_act_90 : decode cL_act 90 = .ok (.iload 9, 2) := by decide +kernel
theorem dL_act_92 : decode cL_act 92 = .ok (.if_icmp .eq 25, 3) := by decide +kernel
theorem dL_act_95 : decode cL_act 95 = .ok (.iload 14, 2) := by decide +kernel
theorem dL_act_97 : decode cL_act 97 = .ok (.ifCond .ge 39, 3) := by decide +kernel
theorem dL_act_100 : decode cL_act 100 = .ok (.aload_n 0, 1) := by decide +kernel
theorem dL_act_101 : decode cL_act 101 = .ok (.iload 13, 2) := by decide +kernel
theorem dL_act_103 : decode cL_act 103 = .ok (.iconst 0, 1) := by decide +kernel
theorem dL_act_104 : decode cL_act 104 = .ok (.invokevirtual 26, 3) := by decide +kernel
theorem dL_act_107 : decode cL_act 107 = .ok (.aload_n 0, 1) := by decide +kernel
theorem dL_act_108 : decode cL_act 108 = .ok (.iload 9, 2) := by decide +kernel
theorem dL_act_110 : decode cL_act 110 = .ok (.iconst 0, 1) := by decide +kernel
theorem dL_act_111 : decode cL_act 111 = .ok (.invokevirtual 26, 3) := by decide +kernel
theorem dL_act_114 : decode cL_act 114 = .ok (.if_icmp .eq 22, 3) := by decide +kernel
theorem dL_act_117 : decode cL_act 117 = .ok (.aload 11, 2) := by decide +kernel
theorem dL_act_119 : decode cL_act 119 = .ok (.aload 4, 2) := by decide +kernel
theorem dL_act_121 : decode cL_act 121 = .ok (.bipush 6, 2) := by decide +kernel
theorem dL_act_123 : decode cL_act 123 = .ok (.iaload, 1) := by decide +kernel
theorem dL_act_124 : decode cL_act 124 = .ok (.iload 13, 2) := by decide +kernel
theorem dL_act_126 : decode cL_act 126 = .ok (.iastore, 1) := by decide +kernel
theorem dL_act_127 : decode cL_act 127 = .ok (.aload 4, 2) := by decide +kernel
theorem dL_act_129 : decode cL_act 129 = .ok (.bipush 6, 2) := by decide +kernel
theorem dL_act_131 : decode cL_act 131 = .ok (.dup2, 1) := by decide +kernel
theorem dL_act_132 : decode cL_act 132 = .ok (.iaload, 1) := by decide +kernel
theorem dL_act_133 : decode cL_act 133 = .ok (.iconst 1, 1) := by decide +kernel
theorem dL_act_134 : decode cL_act 134 = .ok (.iadd, 1) := by decide +kernel
theorem dL_act_135 : decode cL_act 135 = .ok (.iastore, 1) := by decide +kernel
theorem dL_act_136 : decode cL_act 136 = .ok (.iinc 12 1, 3) := by decide +kernel
theorem dL_act_139 : decode cL_act 139 = .ok (.goto (-112), 3) := by decide +kernel
theorem dL_act_142 : decode cL_act 142 = .ok (.iconst 0, 1) := by decide +kernel
theorem dL_act_143 : decode cL_act 143 = .ok (.istore 12, 2) := by decide +kernel
theorem dL_act_145 : decode cL_act 145 = .ok (.iload 12, 2) := by decide +kernel
theorem dL_act_147 : decode cL_act 147 = .ok (.aload 4, 2) := by decide +kernel
theorem dL_act_149 : decode cL_act 149 = .ok (.bipush 6, 2) := by decide +kernel
theorem dL_act_151 : decode cL_act 151 = .ok (.iaload, 1) := by decide +kernel
theorem dL_act_152 : decode cL_act 152 = .ok (.if_icmp .ge 117, 3) := by decide +kernel
theorem dL_act_155 : decode cL_act 155 = .ok (.aload 11, 2) := by decide +kernel
theorem dL_act_157 : decode cL_act 157 = .ok (.iload 12, 2) := by decide +kernel
theorem dL_act_159 : decode cL_act 159 = .ok (.iaload, 1) := by decide +kernel
theorem dL_act_160 : decode cL_act 160 = .ok (.istore 13, 2) := by decide +kernel
theorem dL_act_162 : decode cL_act 162 = .ok (.aload_n 1, 1) := by decide +kernel
theorem dL_act_163 : decode cL_act 163 = .ok (.bipush 8, 2) := by decide +kernel
theorem dL_act_165 : decode cL_act 165 = .ok (.iload 13, 2) := by decide +kernel
theorem dL_act_167 : decode cL_act 167 = .ok (.imul, 1) := by decide +kernel
theorem dL_act_168 : decode cL_act 168 = .ok (.iconst 4, 1) := by decide +kernel
theorem dL_act_169 : decode cL_act 169 = .ok (.iadd, 1) := by decide +kernel
theorem dL_act_170 : decode cL_act 170 = .ok (.iaload, 1) := by decide +kernel
theorem dL_act_171 : decode cL_act 171 = .ok (.istore 14, 2) := by decide +kernel
theorem dL_act_173 : decode cL_act 173 = .ok (.aload_n 1, 1) := by decide +kernel
theorem dL_act_174 : decode cL_act 174 = .ok (.bipush 8, 2) := by decide +kernel
theorem dL_act_176 : decode cL_act 176 = .ok (.iload 13, 2) := by decide +kernel
theorem dL_act_178 : decode cL_act 178 = .ok (.imul, 1) := by decide +kernel
theorem dL_act_179 : decode cL_act 179 = .ok (.iconst 5, 1) := by decide +kernel
theorem dL_act_180 : decode cL_act 180 = .ok (.iadd, 1) := by decide +kernel
theorem dL_act_181 : decode cL_act 181 = .ok (.iaload, 1) := by decide +kernel
theorem dL_act_182 : decode cL_act 182 = .ok (.istore 15, 2) := by decide +kernel
theorem dL_act_184 : decode cL_act 184 = .ok (.aload_n 1, 1) := by decide +kernel
theorem dL_act_185 : decode cL_act 185 = .ok (.iload 13, 2) := by decide +kernel
theorem dL_act_187 : decode cL_act 187 = .ok (.invokestatic 40, 3) := by decide +kernel
theorem dL_act_190 : decode cL_act 190 = .ok (.aload_n 1, 1) := by decide +kernel
theorem dL_act_191 : decode cL_act 191 = .ok (.iload 13, 2) := by decide +kernel
theorem dL_act_193 : decode cL_act 193 = .ok (.invokestatic 36, 3) := by decide +kernel
theorem dL_act_196 : decode cL_act 196 = .ok (.ifCond .eq 47, 3) := by decide +kernel
theorem dL_act_199 : decode cL_act 199 = .ok (.aload_n 2, 1) := by decide +kernel
theorem dL_act_200 : decode cL_act 200 = .ok (.iconst 4, 1) := by decide +kernel
theorem dL_act_201 : decode cL_act 201 = .ok (.iload 13, 2) := by decide +kernel
theorem dL_act_203 : decode cL_act 203 = .ok (.imul, 1) := by decide +kernel
theorem dL_act_204 : decode cL_act 204 = .ok (.iaload, 1) := by decide +kernel
theorem dL_act_205 : decode cL_act 205 = .ok (.ifCond .ne 38, 3) := by decide +kernel
theorem dL_act_208 : decode cL_act 208 = .ok (.aload_n 0, 1) := by decide +kernel
theorem dL_act_209 : decode cL_act 209 = .ok (.aload_n 1, 1) := by decide +kernel
theorem dL_act_210 : decode cL_act 210 = .ok (.aload_n 2, 1) := by decide +kernel
theorem dL_act_211 : decode cL_act 211 = .ok (.iload 13, 2) := by decide +kernel
theorem dL_act_213 : decode cL_act 213 = .ok (.iload 14, 2) := by decide +kernel
theorem dL_act_215 : decode cL_act 215 = .ok (.iload 15, 2) := by decide +kernel
theorem dL_act_217 : decode cL_act 217 = .ok (.invokestatic 54, 3) := by decide +kernel
theorem dL_act_220 : decode cL_act 220 = .ok (.ifCond .eq 23, 3) := by decide +kernel
theorem dL_act_223 : decode cL_act 223 = .ok (.aload_n 0, 1) := by decide +kernel
theorem dL_act_224 : decode cL_act 224 = .ok (.aload_n 1, 1) := by decide +kernel
theorem dL_act_225 : decode cL_act 225 = .ok (.aload_n 2, 1) := by decide +kernel
theorem dL_act_226 : decode cL_act 226 = .ok (.aload 4, 2) := by decide +kernel
theorem dL_act_228 : decode cL_act 228 = .ok (.iload 13, 2) := by decide +kernel
theorem dL_act_230 : decode cL_act 230 = .ok (.iload 14, 2) := by decide +kernel
theorem dL_act_232 : decode cL_act 232 = .ok (.iload 15, 2) := by decide +kernel
theorem dL_act_234 : decode cL_act 234 = .ok (.iconst 0, 1) := by decide +kernel
theorem dL_act_235 : decode cL_act 235 = .ok (.iconst 0, 1) := by decide +kernel
theorem dL_act_236 : decode cL_act 236 = .ok (.invokestatic 58, 3) := by decide +kernel
theorem dL_act_239 : decode cL_act 239 = .ok (.pop, 1) := by decide +kernel
theorem dL_act_240 : decode cL_act 240 = .ok (.goto 11, 3) := by decide +kernel
theorem dL_act_243 : decode cL_act 243 = .ok (.aload 4, 2) := by decide +kernel
theorem dL_act_245 : decode cL_act 245 = .ok (.iconst 3, 1) := by decide +kernel
theorem dL_act_246 : decode cL_act 246 = .ok (.dup2, 1) := by decide +kernel
theorem dL_act_247 : decode cL_act 247 = .ok (.iaload, 1) := by decide +kernel
theorem dL_act_248 : decode cL_act 248 = .ok (.iconst 1, 1) := by decide +kernel
theorem dL_act_249 : decode cL_act 249 = .ok (.iadd, 1) := by decide +kernel
theorem dL_act_250 : decode cL_act 250 = .ok (.iastore, 1) := by decide +kernel
theorem dL_act_251 : decode cL_act 251 = .ok (.aload_n 1, 1) := by decide +kernel
theorem dL_act_252 : decode cL_act 252 = .ok (.aload_n 3, 1) := by decide +kernel
theorem dL_act_253 : decode cL_act 253 = .ok (.iload 10, 2) := by decide +kernel
theorem dL_act_255 : decode cL_act 255 = .ok (.iload 13, 2) := by decide +kernel
theorem dL_act_257 : decode cL_act 257 = .ok (.iload 9, 2) := by decide +kernel
theorem dL_act_259 : decode cL_act 259 = .ok (.iconst 0, 1) := by decide +kernel
theorem dL_act_260 : decode cL_act 260 = .ok (.invokestatic 62, 3) := by decide +kernel
theorem dL_act_263 : decode cL_act 263 = .ok (.iinc 12 1, 3) := by decide +kernel
theorem dL_act_266 : decode cL_act 266 = .ok (.goto (-121), 3) := by decide +kernel
theorem dL_act_269 : decode cL_act 269 = .ok (.iconst (-1), 1) := by decide +kernel
theorem dL_act_270 : decode cL_act 270 = .ok (.istore 12, 2) := by decide +kernel
theorem dL_act_272 : decode cL_act 272 = .ok (.aload_n 1, 1) := by decide +kernel
theorem dL_act_273 : decode cL_act 273 = .ok (.iload 9, 2) := by decide +kernel
theorem dL_act_275 : decode cL_act 275 = .ok (.invokestatic 36, 3) := by decide +kernel
theorem dL_act_278 : decode cL_act 278 = .ok (.ifCond .eq 41, 3) := by decide +kernel
theorem dL_act_281 : decode cL_act 281 = .ok (.aload_n 0, 1) := by decide +kernel
theorem dL_act_282 : decode cL_act 282 = .ok (.aload_n 1, 1) := by decide +kernel
theorem dL_act_283 : decode cL_act 283 = .ok (.aload_n 2, 1) := by decide +kernel
theorem dL_act_284 : decode cL_act 284 = .ok (.iload 9, 2) := by decide +kernel
theorem dL_act_286 : decode cL_act 286 = .ok (.iload 5, 2) := by decide +kernel
theorem dL_act_288 : decode cL_act 288 = .ok (.iload 6, 2) := by decide +kernel
theorem dL_act_290 : decode cL_act 290 = .ok (.invokestatic 54, 3) := by decide +kernel
theorem dL_act_293 : decode cL_act 293 = .ok (.ifCond .eq 26, 3) := by decide +kernel
theorem dL_act_296 : decode cL_act 296 = .ok (.aload_n 0, 1) := by decide +kernel
theorem dL_act_297 : decode cL_act 297 = .ok (.aload_n 1, 1) := by decide +kernel
theorem dL_act_298 : decode cL_act 298 = .ok (.aload_n 2, 1) := by decide +kernel
theorem dL_act_299 : decode cL_act 299 = .ok (.aload 4, 2) := by decide +kernel
theorem dL_act_301 : decode cL_act 301 = .ok (.iload 9, 2) := by decide +kernel
theorem dL_act_303 : decode cL_act 303 = .ok (.iload 5, 2) := by decide +kernel
theorem dL_act_305 : decode cL_act 305 = .ok (.iload 6, 2) := by decide +kernel
theorem dL_act_307 : decode cL_act 307 = .ok (.iload 7, 2) := by decide +kernel
theorem dL_act_309 : decode cL_act 309 = .ok (.iload 8, 2) := by decide +kernel
theorem dL_act_311 : decode cL_act 311 = .ok (.invokestatic 58, 3) := by decide +kernel
theorem dL_act_314 : decode cL_act 314 = .ok (.istore 12, 2) := by decide +kernel
theorem dL_act_316 : decode cL_act 316 = .ok (.goto 11, 3) := by decide +kernel
theorem dL_act_319 : decode cL_act 319 = .ok (.aload 4, 2) := by decide +kernel
theorem dL_act_321 : decode cL_act 321 = .ok (.iconst 3, 1) := by decide +kernel
theorem dL_act_322 : decode cL_act 322 = .ok (.dup2, 1) := by decide +kernel
theorem dL_act_323 : decode cL_act 323 = .ok (.iaload, 1) := by decide +kernel
theorem dL_act_324 : decode cL_act 324 = .ok (.iconst 1, 1) := by decide +kernel
theorem dL_act_325 : decode cL_act 325 = .ok (.iadd, 1) := by decide +kernel
theorem dL_act_326 : decode cL_act 326 = .ok (.iastore, 1) := by decide +kernel
theorem dL_act_327 : decode cL_act 327 = .ok (.aload_n 1, 1) := by decide +kernel
theorem dL_act_328 : decode cL_act 328 = .ok (.aload_n 2, 1) := by decide +kernel
theorem dL_act_329 : decode cL_act 329 = .ok (.aload_n 3, 1) := by decide +kernel
theorem dL_act_330 : decode cL_act 330 = .ok (.aload 4, 2) := by decide +kernel
theorem dL_act_332 : decode cL_act 332 = .ok (.invokestatic 66, 3) := by decide +kernel
theorem dL_act_335 : decode cL_act 335 = .ok (.iload 12, 2) := by decide +kernel
theorem dL_act_337 : decode cL_act 337 = .ok (.ireturn, 1) := by decide +kernel
theorem dL_tells_0 : decode cL_tells 0 = .ok (.aload 4, 2) := by decide +kernel
theorem dL_tells_2 : decode cL_tells 2 = .ok (.iconst 5, 1) := by decide +kernel
theorem dL_tells_3 : decode cL_tells 3 = .ok (.iaload, 1) := by decide +kernel
theorem dL_tells_4 : decode cL_tells 4 = .ok (.istore 5, 2) := by decide +kernel
theorem dL_tells_6 : decode cL_tells 6 = .ok (.iconst 0, 1) := by decide +kernel
theorem dL_tells_7 : decode cL_tells 7 = .ok (.istore 6, 2) := by decide +kernel
theorem dL_tells_9 : decode cL_tells 9 = .ok (.iconst 0, 1) := by decide +kernel
theorem dL_tells_10 : decode cL_tells 10 = .ok (.istore 7, 2) := by decide +kernel
theorem dL_tells_12 : decode cL_tells 12 = .ok (.iconst 4, 1) := by decide +kernel
theorem dL_tells_13 : decode cL_tells 13 = .ok (.newarray .int, 2) := by decide +kernel
theorem dL_tells_15 : decode cL_tells 15 = .ok (.astore 8, 2) := by decide +kernel
theorem dL_tells_17 : decode cL_tells 17 = .ok (.iconst 0, 1) := by decide +kernel
theorem dL_tells_18 : decode cL_tells 18 = .ok (.istore 9, 2) := by decide +kernel
theorem dL_tells_20 : decode cL_tells 20 = .ok (.iload 9, 2) := by decide +kernel
theorem dL_tells_22 : decode cL_tells 22 = .ok (.iload 5, 2) := by decide +kernel
theorem dL_tells_24 : decode cL_tells 24 = .ok (.if_icmp .ge 352, 3) := by decide +kernel
theorem dL_tells_27 : decode cL_tells 27 = .ok (.aload_n 1, 1) := by decide +kernel
theorem dL_tells_28 : decode cL_tells 28 = .ok (.iload 9, 2) := by decide +kernel
theorem dL_tells_30 : decode cL_tells 30 = .ok (.invokestatic 36, 3) := by decide +kernel
theorem dL_tells_33 : decode cL_tells 33 = .ok (.ifCond .ne 7, 3) := by decide +kernel
theorem dL_tells_36 : decode cL_tells 36 = .ok (.iconst 3, 1) := by decide +kernel
theorem dL_tells_37 : decode cL_tells 37 = .ok (.goto 37, 3) := by decide +kernel
theorem dL_tells_40 : decode cL_tells 40 = .ok (.aload_n 1, 1) := by decide +kernel
theorem dL_tells_41 : decode cL_tells 41 = .ok (.bipush 8, 2) := by decide +kernel
theorem dL_tells_43 : decode cL_tells 43 = .ok (.iload 9, 2) := by decide +kernel
theorem dL_tells_45 : decode cL_tells 45 = .ok (.imul, 1) := by decide +kernel
theorem dL_tells_46 : decode cL_tells 46 = .ok (.iconst 3, 1) := by decide +kernel
theorem dL_tells_47 : decode cL_tells 47 = .ok (.iadd, 1) := by decide +kernel
theorem dL_tells_48 : decode cL_tells 48 = .ok (.iaload, 1) := by decide +kernel
theorem dL_tells_49 : decode cL_tells 49 = .ok (.iconst 1, 1) := by decide +kernel
theorem dL_tells_50 : decode cL_tells 50 = .ok (.if_icmp .ne 7, 3) := by decide +kernel
theorem dL_tells_53 : decode cL_tells 53 = .ok (.iconst 1, 1) := by decide +kernel
theorem dL_tells_54 : decode cL_tells 54 = .ok (.goto 20, 3) := by decide +kernel
theorem dL_tells_57 : decode cL_tells 57 = .ok (.aload_n 1, 1) := by decide +kernel
theorem dL_tells_58 : decode cL_tells 58 = .ok (.bipush 8, 2) := by decide +kernel
theorem dL_tells_60 : decode cL_tells 60 = .ok (.iload 9, 2) := by decide +kernel
theorem dL_tells_62 : decode cL_tells 62 = .ok (.imul, 1) := by decide +kernel
theorem dL_tells_63 : decode cL_tells 63 = .ok (.iconst 4, 1) := by decide +kernel
theorem dL_tells_64 : decode cL_tells 64 = .ok (.iadd, 1) := by decide +kernel
theorem dL_tells_65 : decode cL_tells 65 = .ok (.iaload, 1) := by decide +kernel
theorem dL_tells_66 : decode cL_tells 66 = .ok (.ifCond .lt 7, 3) := by decide +kernel
theorem dL_tells_69 : decode cL_tells 69 = .ok (.iconst 2, 1) := by decide +kernel
theorem dL_tells_70 : decode cL_tells 70 = .ok (.goto 4, 3) := by decide +kernel
theorem dL_tells_73 : decode cL_tells 73 = .ok (.iconst 0, 1) := by decide +kernel
theorem dL_tells_74 : decode cL_tells 74 = .ok (.istore 10, 2) := by decide +kernel
theorem dL_tells_76 : decode cL_tells 76 = .ok (.aload_n 0, 1) := by decide +kernel
theorem dL_tells_77 : decode cL_tells 77 = .ok (.iload 9, 2) := by decide +kernel
theorem dL_tells_79 : decode cL_tells 79 = .ok (.iconst 2, 1) := by decide +kernel
theorem dL_tells_80 : decode cL_tells 80 = .ok (.invokevirtual 26, 3) := by decide +kernel
theorem dL_tells_83 : decode cL_tells 83 = .ok (.aload_n 1, 1) := by decide +kernel
theorem dL_tells_84 : decode cL_tells 84 = .ok (.bipush 8, 2) := by decide +kernel
theorem dL_tells_86 : decode cL_tells 86 = .ok (.iload 9, 2) := by decide +kernel
theorem dL_tells_88 : decode cL_tells 88 = .ok (.imul, 1) := by decide +kernel
theorem dL_tells_89 : decode cL_tells 89 = .ok (.iaload, 1) := by decide +kernel
theorem dL_tells_90 : decode cL_tells 90 = .ok (.if_icmp .ne 90, 3) := by decide +kernel
theorem dL_tells_93 : decode cL_tells 93 = .ok (.aload_n 0, 1) := by decide +kernel
theorem dL_tells_94 : decode cL_tells 94 = .ok (.iload 9, 2) := by decide +kernel
theorem dL_tells_96 : decode cL_tells 96 = .ok (.iconst 5, 1) := by decide +kernel
theorem dL_tells_97 : decode cL_tells 97 = .ok (.invokevirtual 26, 3) := by decide +kernel
theorem dL_tells_100 : decode cL_tells 100 = .ok (.aload_n 1, 1) := by decide +kernel
theorem dL_tells_101 : decode cL_tells 101 = .ok (.bipush 8, 2) := by decide +kernel
theorem dL_tells_103 : decode cL_tells 103 = .ok (.iload 9, 2) := by decide +kernel
theorem dL_tells_105 : decode cL_tells 105 = .ok (.imul, 1) := by decide +kernel
theorem dL_tells_106 : decode cL_tells 106 = .ok (.iconst 1, 1) := by decide +kernel
theorem dL_tells_107 : decode cL_tells 107 = .ok (.iadd, 1) := by decide +kernel
theorem dL_tells_108 : decode cL_tells 108 = .ok (.iaload, 1) := by decide +kernel
theorem dL_tells_109 : decode cL_tells 109 = .ok (.if_icmp .ne 71, 3) := by decide +kernel
theorem dL_tells_112 : decode cL_tells 112 = .ok (.aload_n 0, 1) := by decide +kernel
theorem dL_tells_113 : decode cL_tells 113 = .ok (.iload 9, 2) := by decide +kernel
theorem dL_tells_115 : decode cL_tells 115 = .ok (.iconst 1, 1) := by decide +kernel
theorem dL_tells_116 : decode cL_tells 116 = .ok (.invokevirtual 26, 3) := by decide +kernel
theorem dL_tells_119 : decode cL_tells 119 = .ok (.aload_n 1, 1) := by decide +kernel
theorem dL_tells_120 : decode cL_tells 120 = .ok (.bipush 8, 2) := by decide +kernel
theorem dL_tells_122 : decode cL_tells 122 = .ok (.iload 9, 2) := by decide +kernel
theorem dL_tells_124 : decode cL_tells 124 = .ok (.imul, 1) := by decide +kernel
theorem dL_tells_125 : decode cL_tells 125 = .ok (.iconst 2, 1) := by decide +kernel
theorem dL_tells_126 : decode cL_tells 126 = .ok (.iadd, 1) := by decide +kernel
theorem dL_tells_127 : decode cL_tells 127 = .ok (.iaload, 1) := by decide +kernel
theorem dL_tells_128 : decode cL_tells 128 = .ok (.if_icmp .ne 52, 3) := by decide +kernel
theorem dL_tells_131 : decode cL_tells 131 = .ok (.aload_n 0, 1) := by decide +kernel
theorem dL_tells_132 : decode cL_tells 132 = .ok (.iload 9, 2) := by decide +kernel
theorem dL_tells_134 : decode cL_tells 134 = .ok (.bipush 6, 2) := by decide +kernel
theorem dL_tells_136 : decode cL_tells 136 = .ok (.invokevirtual 26, 3) := by decide +kernel
theorem dL_tells_139 : decode cL_tells 139 = .ok (.aload_n 3, 1) := by decide +kernel
theorem dL_tells_140 : decode cL_tells 140 = .ok (.iload 9, 2) := by decide +kernel
theorem dL_tells_142 : decode cL_tells 142 = .ok (.invokestatic 47, 3) := by decide +kernel
theorem dL_tells_145 : decode cL_tells 145 = .ok (.if_icmp .ne 35, 3) := by decide +kernel
theorem dL_tells_148 : decode cL_tells 148 = .ok (.aload_n 0, 1) := by decide +kernel
theorem dL_tells_149 : decode cL_tells 149 = .ok (.iload 9, 2) := by decide +kernel
theorem dL_tells_151 : decode cL_tells 151 = .ok (.bipush 7, 2) := by decide +kernel
theorem dL_tells_153 : decode cL_tells 153 = .ok (.invokevirtual 26, 3) := by decide +kernel
theorem dL_tells_156 : decode cL_tells 156 = .ok (.iload 10, 2) := by decide +kernel
theorem dL_tells_158 : decode cL_tells 158 = .ok (.if_icmp .ne 22, 3) := by decide +kernel
theorem dL_tells_161 : decode cL_tells 161 = .ok (.aload_n 0, 1) := by decide +kernel
theorem dL_tells_162 : decode cL_tells 162 = .ok (.aload_n 3, 1) := by decide +kernel
theorem dL_tells_163 : decode cL_tells 163 = .ok (.iload 9, 2) := by decide +kernel
theorem dL_tells_165 : decode cL_tells 165 = .ok (.invokestatic 47, 3) := by decide +kernel
theorem dL_tells_168 : decode cL_tells 168 = .ok (.invokevirtual 70, 3) := by decide +kernel
theorem dL_tells_171 : decode cL_tells 171 = .ok (.iload 9, 2) := by decide +kernel
theorem dL_tells_173 : decode cL_tells 173 = .ok (.if_icmp .ne 7, 3) := by decide +kernel
theorem dL_tells_176 : decode cL_tells 176 = .ok (.iconst 1, 1) := by decide +kernel
theorem dL_tells_177 : decode cL_tells 177 = .ok (.goto 4, 3) := by decide +kernel
theorem dL_tells_180 : decode cL_tells 180 = .ok (.iconst 0, 1) := by decide +kernel
theorem dL_tells_181 : decode cL_tells 181 = .ok (.istore 11, 2) := by decide +kernel
theorem dL_tells_183 : decode cL_tells 183 = .ok (.iconst 0, 1) := by decide +kernel
theorem dL_tells_184 : decode cL_tells 184 = .ok (.istore 12, 2) := by decide +kernel
theorem dL_tells_186 : decode cL_tells 186 = .ok (.iload 12, 2) := by decide +kernel
theorem dL_tells_188 : decode cL_tells 188 = .ok (.iconst 4, 1) := by decide +kernel
theorem dL_tells_189 : decode cL_tells 189 = .ok (.if_icmp .ge 67, 3) := by decide +kernel
theorem dL_tells_192 : decode cL_tells 192 = .ok (.iload 11, 2) := by decide +kernel
theorem dL_tells_194 : decode cL_tells 194 = .ok (.ifCond .eq 53, 3) := by decide +kernel
theorem dL_tells_197 : decode cL_tells 197 = .ok (.aload_n 0, 1) := by decide +kernel
theorem dL_tells_198 : decode cL_tells 198 = .ok (.iload 9, 2) := by decide +kernel
theorem dL_tells_200 : decode cL_tells 200 = .ok (.bipush 8, 2) := by decide +kernel
theorem dL_tells_202 : decode cL_tells 202 = .ok (.iload 12, 2) := by decide +kernel
theorem dL_tells_204 : decode cL_tells 204 = .ok (.iadd, 1) := by decide +kernel
theorem dL_tells_205 : decode cL_tells 205 = .ok (.invokevirtual 26, 3) := by decide +kernel
theorem dL_tells_208 : decode cL_tells 208 = .ok (.aload_n 2, 1) := by decide +kernel
theorem dL_tells_209 : decode cL_tells 209 = .ok (.iconst 4, 1) := by decide +kernel
theorem dL_tells_210 : decode cL_tells 210 = .ok (.iload 9, 2) := by decide +kernel
theorem dL_tells_212 : decode cL_tells 212 = .ok (.imul, 1) := by decide +kernel
theorem dL_tells_213 : decode cL_tells 213 = .ok (.iload 12, 2) := by decide +kernel
theorem dL_tells_215 : decode cL_tells 215 = .ok (.iadd, 1) := by decide +kernel
theorem dL_tells_216 : decode cL_tells 216 = .ok (.iaload, 1) := by decide +kernel
theorem dL_tells_217 : decode cL_tells 217 = .ok (.if_icmp .ne 30, 3) := by decide +kernel
theorem dL_tells_220 : decode cL_tells 220 = .ok (.aload_n 0, 1) := by decide +kernel
theorem dL_tells_221 : decode cL_tells 221 = .ok (.iload 9, 2) := by decide +kernel
theorem dL_tells_223 : decode cL_tells 223 = .ok (.iload 12, 2) := by decide +kernel
theorem dL_tells_225 : decode cL_tells 225 = .ok (.invokevirtual 29, 3) := by decide +kernel
theorem dL_tells_228 : decode cL_tells 228 = .ok (.aload_n 1, 1) := by decide +kernel
theorem dL_tells_229 : decode cL_tells 229 = .ok (.bipush 8, 2) := by decide +kernel
theorem dL_tells_231 : decode cL_tells 231 = .ok (.iload 9, 2) := by decide +kernel
theorem dL_tells_233 : decode cL_tells 233 = .ok (.imul, 1) := by decide +kernel
theorem dL_tells_234 : decode cL_tells 234 = .ok (.iconst 4, 1) := by decide +kernel
theorem dL_tells_235 : decode cL_tells 235 = .ok (.iadd, 1) := by decide +kernel
theorem dL_tells_236 : decode cL_tells 236 = .ok (.iload 12, 2) := by decide +kernel
theorem dL_tells_238 : decode cL_tells 238 = .ok (.iadd, 1) := by decide +kernel
theorem dL_tells_239 : decode cL_tells 239 = .ok (.iaload, 1) := by decide +kernel
theorem dL_tells_240 : decode cL_tells 240 = .ok (.if_icmp .ne 7, 3) := by decide +kernel
theorem dL_tells_243 : decode cL_tells 243 = .ok (.iconst 1, 1) := by decide +kernel
theorem dL_tells_244 : decode cL_tells 244 = .ok (.goto 4, 3) := by decide +kernel
theorem dL_tells_247 : decode cL_tells 247 = .ok (.iconst 0, 1) := by decide +kernel
theorem dL_tells_248 : decode cL_tells 248 = .ok (.istore 11, 2) := by decide +kernel
theorem dL_tells_250 : decode cL_tells 250 = .ok (.iinc 12 1, 3) := by decide +kernel
theorem dL_tells_253 : decode cL_tells 253 = .ok (.goto (-67), 3) := by decide +kernel
theorem dL_tells_256 : decode cL_tells 256 = .ok (.iload 11, 2) := by decide +kernel
theorem dL_tells_258 : decode cL_tells 258 = .ok (.ifCond .ne 5, 3) := by decide +kernel
theorem dL_tells_261 : decode cL_tells 261 = .ok (.iconst 0, 1) := by decide +kernel
theorem dL_tells_262 : decode cL_tells 262 = .ok (.ireturn, 1) := by decide +kernel
theorem dL_tells_263 : decode cL_tells 263 = .ok (.iload 6, 2) := by decide +kernel
theorem dL_tells_265 : decode cL_tells 265 = .ok (.aload_n 1, 1) := by decide +kernel
theorem dL_tells_266 : decode cL_tells 266 = .ok (.iload 9, 2) := by decide +kernel
theorem dL_tells_268 : decode cL_tells 268 = .ok (.invokestatic 36, 3) := by decide +kernel
theorem dL_tells_271 : decode cL_tells 271 = .ok (.ifCond .eq 15, 3) := by decide +kernel
theorem dL_tells_274 : decode cL_tells 274 = .ok (.aload_n 1, 1) := by decide +kernel
theorem dL_tells_275 : decode cL_tells 275 = .ok (.bipush 8, 2) := by decide +kernel
theorem dL_tells_277 : decode cL_tells 277 = .ok (.iload 9, 2) := by decide +kernel
theorem dL_tells_279 : decode cL_tells 279 = .ok (.imul, 1) := by decide +kernel
theorem dL_tells_280 : decode cL_tells 280 = .ok (.iconst 3, 1) := by decide +kernel
theorem dL_tells_281 : decode cL_tells 281 = .ok (.iadd, 1) := by decide +kernel
theorem dL_tells_282 : decode cL_tells 282 = .ok (.iaload, 1) := by decide +kernel
theorem dL_tells_283 : decode cL_tells 283 = .ok (.goto 4, 3) := by decide +kernel
theorem dL_tells_286 : decode cL_tells 286 = .ok (.iconst 0, 1) := by decide +kernel
theorem dL_tells_287 : decode cL_tells 287 = .ok (.iadd, 1) := by decide +kernel
theorem dL_tells_288 : decode cL_tells 288 = .ok (.istore 6, 2) := by decide +kernel
theorem dL_tells_290 : decode cL_tells 290 = .ok (.iload 7, 2) := by decide +kernel
theorem dL_tells_292 : decode cL_tells 292 = .ok (.aload_n 1, 1) := by decide +kernel
theorem dL_tells_293 : decode cL_tells 293 = .ok (.iload 9, 2) := by decide +kernel
theorem dL_tells_295 : decode cL_tells 295 = .ok (.invokestatic 36, 3) := by decide +kernel
theorem dL_tells_298 : decode cL_tells 298 = .ok (.ifCond .eq 19, 3) := by decide +kernel
theorem dL_tells_301 : decode cL_tells 301 = .ok (.aload_n 1, 1) := by decide +kernel
theorem dL_tells_302 : decode cL_tells 302 = .ok (.bipush 8, 2) := by decide +kernel
theorem dL_tells_304 : decode cL_tells 304 = .ok (.iload 9, 2) := by decide +kernel
theorem dL_tells_306 : decode cL_tells 306 = .ok (.imul, 1) := by decide +kernel
theorem dL_tells_307 : decode cL_tells 307 = .ok (.iconst 4, 1) := by decide +kernel
theorem dL_tells_308 : decode cL_tells 308 = .ok (.iadd, 1) := by decide +kernel
theorem dL_tells_309 : decode cL_tells 309 = .ok (.iaload, 1) := by decide +kernel
theorem dL_tells_310 : decode cL_tells 310 = .ok (.ifCond .lt 7, 3) := by decide +kernel
theorem dL_tells_313 : decode cL_tells 313 = .ok (.iconst 1, 1) := by decide +kernel
theorem dL_tells_314 : decode cL_tells 314 = .ok (.goto 4, 3) := by decide +kernel
theorem dL_tells_317 : decode cL_tells 317 = .ok (.iconst 0, 1) := by decide +kernel
theorem dL_tells_318 : decode cL_tells 318 = .ok (.iadd, 1) := by decide +kernel
theorem dL_tells_319 : decode cL_tells 319 = .ok (.istore 7, 2) := by decide +kernel
theorem dL_tells_321 : decode cL_tells 321 = .ok (.aload 8, 2) := by decide +kernel
theorem dL_tells_323 : decode cL_tells 323 = .ok (.aload_n 0, 1) := by decide +kernel
theorem dL_tells_324 : decode cL_tells 324 = .ok (.iload 9, 2) := by decide +kernel
theorem dL_tells_326 : decode cL_tells 326 = .ok (.iconst 0, 1) := by decide +kernel
theorem dL_tells_327 : decode cL_tells 327 = .ok (.invokevirtual 26, 3) := by decide +kernel
theorem dL_tells_330 : decode cL_tells 330 = .ok (.dup2, 1) := by decide +kernel
theorem dL_tells_331 : decode cL_tells 331 = .ok (.iaload, 1) := by decide +kernel
theorem dL_tells_332 : decode cL_tells 332 = .ok (.aload_n 1, 1) := by decide +kernel
theorem dL_tells_333 : decode cL_tells 333 = .ok (.iload 9, 2) := by decide +kernel
theorem dL_tells_335 : decode cL_tells 335 = .ok (.invokestatic 36, 3) := by decide +kernel
theorem dL_tells_338 : decode cL_tells 338 = .ok (.ifCond .eq 7, 3) := by decide +kernel
theorem dL_tells_341 : decode cL_tells 341 = .ok (.iconst 1, 1) := by decide +kernel
theorem dL_tells_342 : decode cL_tells 342 = .ok (.goto 4, 3) := by decide +kernel
theorem dL_tells_345 : decode cL_tells 345 = .ok (.iconst 0, 1) := by decide +kernel
theorem dL_tells_346 : decode cL_tells 346 = .ok (.iadd, 1) := by decide +kernel
theorem dL_tells_347 : decode cL_tells 347 = .ok (.iastore, 1) := by decide +kernel
theorem dL_tells_348 : decode cL_tells 348 = .ok (.aload 8, 2) := by decide +kernel
theorem dL_tells_350 : decode cL_tells 350 = .ok (.iconst 2, 1) := by decide +kernel
theorem dL_tells_351 : decode cL_tells 351 = .ok (.aload_n 0, 1) := by decide +kernel
theorem dL_tells_352 : decode cL_tells 352 = .ok (.iload 9, 2) := by decide +kernel
theorem dL_tells_354 : decode cL_tells 354 = .ok (.iconst 0, 1) := by decide +kernel
theorem dL_tells_355 : decode cL_tells 355 = .ok (.invokevirtual 26, 3) := by decide +kernel
theorem dL_tells_358 : decode cL_tells 358 = .ok (.iadd, 1) := by decide +kernel
theorem dL_tells_359 : decode cL_tells 359 = .ok (.dup2, 1) := by decide +kernel
theorem dL_tells_360 : decode cL_tells 360 = .ok (.iaload, 1) := by decide +kernel
theorem dL_tells_361 : decode cL_tells 361 = .ok (.aload_n 1, 1) := by decide +kernel
theorem dL_tells_362 : decode cL_tells 362 = .ok (.bipush 8, 2) := by decide +kernel
theorem dL_tells_364 : decode cL_tells 364 = .ok (.iload 9, 2) := by decide +kernel
theorem dL_tells_366 : decode cL_tells 366 = .ok (.imul, 1) := by decide +kernel
theorem dL_tells_367 : decode cL_tells 367 = .ok (.iaload, 1) := by decide +kernel
theorem dL_tells_368 : decode cL_tells 368 = .ok (.iadd, 1) := by decide +kernel
theorem dL_tells_369 : decode cL_tells 369 = .ok (.iastore, 1) := by decide +kernel
theorem dL_tells_370 : decode cL_tells 370 = .ok (.iinc 9 1, 3) := by decide +kernel
theorem dL_tells_373 : decode cL_tells 373 = .ok (.goto (-353), 3) := by decide +kernel
theorem dL_tells_376 : decode cL_tells 376 = .ok (.aload_n 0, 1) := by decide +kernel
theorem dL_tells_377 : decode cL_tells 377 = .ok (.iconst 1, 1) := by decide +kernel
theorem dL_tells_378 : decode cL_tells 378 = .ok (.invokevirtual 32, 3) := by decide +kernel
theorem dL_tells_381 : decode cL_tells 381 = .ok (.aload 4, 2) := by decide +kernel
theorem dL_tells_383 : decode cL_tells 383 = .ok (.iconst 1, 1) := by decide +kernel
theorem dL_tells_384 : decode cL_tells 384 = .ok (.iaload, 1) := by decide +kernel
theorem dL_tells_385 : decode cL_tells 385 = .ok (.if_icmp .ne 129, 3) := by decide +kernel
theorem dL_tells_388 : decode cL_tells 388 = .ok (.aload_n 0, 1) := by decide +kernel
theorem dL_tells_389 : decode cL_tells 389 = .ok (.iconst 2, 1) := by decide +kernel
theorem dL_tells_390 : decode cL_tells 390 = .ok (.invokevirtual 32, 3) := by decide +kernel
theorem dL_tells_393 : decode cL_tells 393 = .ok (.aload 4, 2) := by decide +kernel
theorem dL_tells_395 : decode cL_tells 395 = .ok (.iconst 0, 1) := by decide +kernel
theorem dL_tells_396 : decode cL_tells 396 = .ok (.iaload, 1) := by decide +kernel
theorem dL_tells_397 : decode cL_tells 397 = .ok (.if_icmp .ne 117, 3) := by decide +kernel
theorem dL_tells_400 : decode cL_tells 400 = .ok (.aload_n 0, 1) := by decide +kernel
theorem dL_tells_401 : decode cL_tells 401 = .ok (.iconst 3, 1) := by decide +kernel
theorem dL_tells_402 : decode cL_tells 402 = .ok (.invokevirtual 32, 3) := by decide +kernel
theorem dL_tells_405 : decode cL_tells 405 = .ok (.aload 8, 2) := by decide +kernel
theorem dL_tells_407 : decode cL_tells 407 = .ok (.iconst 0, 1) := by decide +kernel
theorem dL_tells_408 : decode cL_tells 408 = .ok (.iaload, 1) := by decide +kernel
theorem dL_tells_409 : decode cL_tells 409 = .ok (.if_icmp .ne 105, 3) := by decide +kernel
theorem dL_tells_412 : decode cL_tells 412 = .ok (.aload_n 0, 1) := by decide +kernel
theorem dL_tells_413 : decode cL_tells 413 = .ok (.iconst 4, 1) := by decide +kernel
theorem dL_tells_414 : decode cL_tells 414 = .ok (.invokevirtual 32, 3) := by decide +kernel
theorem dL_tells_417 : decode cL_tells 417 = .ok (.aload 8, 2) := by decide +kernel
theorem dL_tells_419 : decode cL_tells 419 = .ok (.iconst 1, 1) := by decide +kernel
theorem dL_tells_420 : decode cL_tells 420 = .ok (.iaload, 1) := by decide +kernel
theorem dL_tells_421 : decode cL_tells 421 = .ok (.if_icmp .ne 93, 3) := by decide +kernel
theorem dL_tells_424 : decode cL_tells 424 = .ok (.aload_n 0, 1) := by decide +kernel
theorem dL_tells_425 : decode cL_tells 425 = .ok (.iconst 5, 1) := by decide +kernel
theorem dL_tells_426 : decode cL_tells 426 = .ok (.invokevirtual 32, 3) := by decide +kernel
theorem dL_tells_429 : decode cL_tells 429 = .ok (.iload 6, 2) := by decide +kernel
theorem dL_tells_431 : decode cL_tells 431 = .ok (.if_icmp .ne 83, 3) := by decide +kernel
theorem dL_tells_434 : decode cL_tells 434 = .ok (.aload_n 0, 1) := by decide +kernel
theorem dL_tells_435 : decode cL_tells 435 = .ok (.bipush 6, 2) := by decide +kernel
theorem dL_tells_437 : decode cL_tells 437 = .ok (.invokevirtual 32, 3) := by decide +kernel
theorem dL_tells_440 : decode cL_tells 440 = .ok (.iload 7, 2) := by decide +kernel
theorem dL_tells_442 : decode cL_tells 442 = .ok (.if_icmp .ne 72, 3) := by decide +kernel
theorem dL_tells_445 : decode cL_tells 445 = .ok (.aload_n 0, 1) := by decide +kernel
theorem dL_tells_446 : decode cL_tells 446 = .ok (.bipush 7, 2) := by decide +kernel
theorem dL_tells_448 : decode cL_tells 448 = .ok (.invokevirtual 32, 3) := by decide +kernel
theorem dL_tells_451 : decode cL_tells 451 = .ok (.aload 4, 2) := by decide +kernel
theorem dL_tells_453 : decode cL_tells 453 = .ok (.iconst 2, 1) := by decide +kernel
theorem dL_tells_454 : decode cL_tells 454 = .ok (.iaload, 1) := by decide +kernel
theorem dL_tells_455 : decode cL_tells 455 = .ok (.if_icmp .ne 59, 3) := by decide +kernel
theorem dL_tells_458 : decode cL_tells 458 = .ok (.aload_n 0, 1) := by decide +kernel
theorem dL_tells_459 : decode cL_tells 459 = .ok (.bipush 8, 2) := by decide +kernel
theorem dL_tells_461 : decode cL_tells 461 = .ok (.invokevirtual 32, 3) := by decide +kernel
theorem dL_tells_464 : decode cL_tells 464 = .ok (.aload 4, 2) := by decide +kernel
theorem dL_tells_466 : decode cL_tells 466 = .ok (.iconst 3, 1) := by decide +kernel
theorem dL_tells_467 : decode cL_tells 467 = .ok (.iaload, 1) := by decide +kernel
theorem dL_tells_468 : decode cL_tells 468 = .ok (.if_icmp .ne 46, 3) := by decide +kernel
theorem dL_tells_471 : decode cL_tells 471 = .ok (.aload_n 0, 1) := by decide +kernel
theorem dL_tells_472 : decode cL_tells 472 = .ok (.bipush 9, 2) := by decide +kernel
theorem dL_tells_474 : decode cL_tells 474 = .ok (.invokevirtual 32, 3) := by decide +kernel
theorem dL_tells_477 : decode cL_tells 477 = .ok (.aload 4, 2) := by decide +kernel
theorem dL_tells_479 : decode cL_tells 479 = .ok (.iconst 4, 1) := by decide +kernel
theorem dL_tells_480 : decode cL_tells 480 = .ok (.iaload, 1) := by decide +kernel
theorem dL_tells_481 : decode cL_tells 481 = .ok (.if_icmp .ne 33, 3) := by decide +kernel
theorem dL_tells_484 : decode cL_tells 484 = .ok (.aload_n 0, 1) := by decide +kernel
theorem dL_tells_485 : decode cL_tells 485 = .ok (.bipush 10, 2) := by decide +kernel
theorem dL_tells_487 : decode cL_tells 487 = .ok (.invokevirtual 32, 3) := by decide +kernel
theorem dL_tells_490 : decode cL_tells 490 = .ok (.aload 8, 2) := by decide +kernel
theorem dL_tells_492 : decode cL_tells 492 = .ok (.iconst 2, 1) := by decide +kernel
theorem dL_tells_493 : decode cL_tells 493 = .ok (.iaload, 1) := by decide +kernel
theorem dL_tells_494 : decode cL_tells 494 = .ok (.if_icmp .ne 20, 3) := by decide +kernel
theorem dL_tells_497 : decode cL_tells 497 = .ok (.aload_n 0, 1) := by decide +kernel
theorem dL_tells_498 : decode cL_tells 498 = .ok (.bipush 11, 2) := by decide +kernel
theorem dL_tells_500 : decode cL_tells 500 = .ok (.invokevirtual 32, 3) := by decide +kernel
theorem dL_tells_503 : decode cL_tells 503 = .ok (.aload 8, 2) := by decide +kernel
theorem dL_tells_505 : decode cL_tells 505 = .ok (.iconst 3, 1) := by decide +kernel
theorem dL_tells_506 : decode cL_tells 506 = .ok (.iaload, 1) := by decide +kernel
theorem dL_tells_507 : decode cL_tells 507 = .ok (.if_icmp .ne 7, 3) := by decide +kernel
theorem dL_tells_510 : decode cL_tells 510 = .ok (.iconst 1, 1) := by decide +kernel
theorem dL_tells_511 : decode cL_tells 511 = .ok (.goto 4, 3) := by decide +kernel
theorem dL_tells_514 : decode cL_tells 514 = .ok (.iconst 0, 1) := by decide +kernel
theorem dL_tells_515 : decode cL_tells 515 = .ok (.istore 9, 2) := by decide +kernel
theorem dL_tells_517 : decode cL_tells 517 = .ok (.iload 9, 2) := by decide +kernel
theorem dL_tells_519 : decode cL_tells 519 = .ok (.ifCond .eq 59, 3) := by decide +kernel
theorem dL_tells_522 : decode cL_tells 522 = .ok (.aload_n 0, 1) := by decide +kernel
theorem dL_tells_523 : decode cL_tells 523 = .ok (.iload 5, 2) := by decide +kernel
theorem dL_tells_525 : decode cL_tells 525 = .ok (.invokevirtual 70, 3) := by decide +kernel
theorem dL_tells_528 : decode cL_tells 528 = .ok (.iconst (-1), 1) := by decide +kernel
theorem dL_tells_529 : decode cL_tells 529 = .ok (.if_icmp .ne 49, 3) := by decide +kernel
theorem dL_tells_532 : decode cL_tells 532 = .ok (.aload_n 0, 1) := by decide +kernel
theorem dL_tells_533 : decode cL_tells 533 = .ok (.invokevirtual 73, 3) := by decide +kernel
theorem dL_tells_536 : decode cL_tells 536 = .ok (.aload 8, 2) := by decide +kernel
theorem dL_tells_538 : decode cL_tells 538 = .ok (.iconst 2, 1) := by decide +kernel
theorem dL_tells_539 : decode cL_tells 539 = .ok (.iaload, 1) := by decide +kernel
theorem dL_tells_540 : decode cL_tells 540 = .ok (.aload 8, 2) := by decide +kernel
theorem dL_tells_542 : decode cL_tells 542 = .ok (.iconst 3, 1) := by decide +kernel
theorem dL_tells_543 : decode cL_tells 543 = .ok (.iaload, 1) := by decide +kernel
theorem dL_tells_544 : decode cL_tells 544 = .ok (.iadd, 1) := by decide +kernel
theorem dL_tells_545 : decode cL_tells 545 = .ok (.ifCond .ne 9, 3) := by decide +kernel
theorem dL_tells_548 : decode cL_tells 548 = .ok (.ldc2_w 77, 3) := by decide +kernel
theorem dL_tells_551 : decode cL_tells 551 = .ok (.goto 19, 3) := by decide +kernel
theorem dL_tells_554 : decode cL_tells 554 = .ok (.aload 8, 2) := by decide +kernel
theorem dL_tells_556 : decode cL_tells 556 = .ok (.iconst 2, 1) := by decide +kernel
theorem dL_tells_557 : decode cL_tells 557 = .ok (.iaload, 1) := by decide +kernel
theorem dL_tells_558 : decode cL_tells 558 = .ok (.i2d, 1) := by decide +kernel
theorem dL_tells_559 : decode cL_tells 559 = .ok (.aload 8, 2) := by decide +kernel
theorem dL_tells_561 : decode cL_tells 561 = .ok (.iconst 2, 1) := by decide +kernel
theorem dL_tells_562 : decode cL_tells 562 = .ok (.iaload, 1) := by decide +kernel
theorem dL_tells_563 : decode cL_tells 563 = .ok (.aload 8, 2) := by decide +kernel
theorem dL_tells_565 : decode cL_tells 565 = .ok (.iconst 3, 1) := by decide +kernel
theorem dL_tells_566 : decode cL_tells 566 = .ok (.iaload, 1) := by decide +kernel
theorem dL_tells_567 : decode cL_tells 567 = .ok (.iadd, 1) := by decide +kernel
theorem dL_tells_568 : decode cL_tells 568 = .ok (.i2d, 1) := by decide +kernel
theorem dL_tells_569 : decode cL_tells 569 = .ok (.ddiv, 1) := by decide +kernel
theorem dL_tells_570 : decode cL_tells 570 = .ok (.dcmp .l, 1) := by decide +kernel
theorem dL_tells_571 : decode cL_tells 571 = .ok (.ifCond .ne 7, 3) := by decide +kernel
theorem dL_tells_574 : decode cL_tells 574 = .ok (.iconst 1, 1) := by decide +kernel
theorem dL_tells_575 : decode cL_tells 575 = .ok (.goto 4, 3) := by decide +kernel
theorem dL_tells_578 : decode cL_tells 578 = .ok (.iconst 0, 1) := by decide +kernel
theorem dL_tells_579 : decode cL_tells 579 = .ok (.ireturn, 1) := by decide +kernel
theorem dL_law_0 : decode cL_law 0 = .ok (.new 21, 3) := by decide +kernel
theorem dL_law_3 : decode cL_law 3 = .ok (.dup, 1) := by decide +kernel
theorem dL_law_4 : decode cL_law 4 = .ok (.invokespecial 79, 3) := by decide +kernel
theorem dL_law_7 : decode cL_law 7 = .ok (.astore_n 1, 1) := by decide +kernel
theorem dL_law_8 : decode cL_law 8 = .ok (.bipush 48, 2) := by decide +kernel
theorem dL_law_10 : decode cL_law 10 = .ok (.newarray .int, 2) := by decide +kernel
theorem dL_law_12 : decode cL_law 12 = .ok (.astore_n 2, 1) := by decide +kernel
theorem dL_law_13 : decode cL_law 13 = .ok (.bipush 24, 2) := by decide +kernel
theorem dL_law_15 : decode cL_law 15 = .ok (.newarray .int, 2) := by decide +kernel
theorem dL_law_17 : decode cL_law 17 = .ok (.astore_n 3, 1) := by decide +kernel
theorem dL_law_18 : decode cL_law 18 = .ok (.bipush 6, 2) := by decide +kernel
theorem dL_law_20 : decode cL_law 20 = .ok (.newarray .int, 2) := by decide +kernel
theorem dL_law_22 : decode cL_law 22 = .ok (.astore 4, 2) := by decide +kernel
theorem dL_law_24 : decode cL_law 24 = .ok (.bipush 7, 2) := by decide +kernel
theorem dL_law_26 : decode cL_law 26 = .ok (.newarray .int, 2) := by decide +kernel
theorem dL_law_28 : decode cL_law 28 = .ok (.astore 5, 2) := by decide +kernel
theorem dL_law_30 : decode cL_law 30 = .ok (.iconst 2, 1) := by decide +kernel
theorem dL_law_31 : decode cL_law 31 = .ok (.aload_n 0, 1) := by decide +kernel
theorem dL_law_32 : decode cL_law 32 = .ok (.iconst 0, 1) := by decide +kernel
theorem dL_law_33 : decode cL_law 33 = .ok (.invokestatic 10, 3) := by decide +kernel
theorem dL_law_36 : decode cL_law 36 = .ok (.iconst 5, 1) := by decide +kernel
theorem dL_law_37 : decode cL_law 37 = .ok (.invokestatic 16, 3) := by decide +kernel
theorem dL_law_40 : decode cL_law 40 = .ok (.iadd, 1) := by decide +kernel
theorem dL_law_41 : decode cL_law 41 = .ok (.istore 6, 2) := by decide +kernel
theorem dL_law_43 : decode cL_law 43 = .ok (.aload 5, 2) := by decide +kernel
theorem dL_law_45 : decode cL_law 45 = .ok (.iconst 0, 1) := by decide +kernel
theorem dL_law_46 : decode cL_law 46 = .ok (.iconst (-1), 1) := by decide +kernel
theorem dL_law_47 : decode cL_law 47 = .ok (.iastore, 1) := by decide +kernel
theorem dL_law_48 : decode cL_law 48 = .ok (.aload_n 1, 1) := by decide +kernel
theorem dL_law_49 : decode cL_law 49 = .ok (.invokevirtual 80, 3) := by decide +kernel
theorem dL_law_52 : decode cL_law 52 = .ok (.iconst (-1), 1) := by decide +kernel
theorem dL_law_53 : decode cL_law 53 = .ok (.if_icmp .ne 21, 3) := by decide +kernel
theorem dL_law_56 : decode cL_law 56 = .ok (.aload_n 1, 1) := by decide +kernel
theorem dL_law_57 : decode cL_law 57 = .ok (.invokevirtual 84, 3) := by decide +kernel
theorem dL_law_60 : decode cL_law 60 = .ok (.ifCond .ne 14, 3) := by decide +kernel
theorem dL_law_63 : decode cL_law 63 = .ok (.aload_n 1, 1) := by decide +kernel
theorem dL_law_64 : decode cL_law 64 = .ok (.aload_n 0, 1) := by decide +kernel
theorem dL_law_65 : decode cL_law 65 = .ok (.iconst 1, 1) := by decide +kernel
theorem dL_law_66 : decode cL_law 66 = .ok (.iload 6, 2) := by decide +kernel
theorem dL_law_68 : decode cL_law 68 = .ok (.invokestatic 87, 3) := by decide +kernel
theorem dL_law_71 : decode cL_law 71 = .ok (.ifCond .ne 5, 3) := by decide +kernel
theorem dL_law_74 : decode cL_law 74 = .ok (.iconst 0, 1) := by decide +kernel
theorem dL_law_75 : decode cL_law 75 = .ok (.ireturn, 1) := by decide +kernel
theorem dL_law_76 : decode cL_law 76 = .ok (.aload 5, 2) := by decide +kernel
theorem dL_law_78 : decode cL_law 78 = .ok (.iconst 5, 1) := by decide +kernel
theorem dL_law_79 : decode cL_law 79 = .ok (.iload 6, 2) := by decide +kernel
theorem dL_law_81 : decode cL_law 81 = .ok (.iastore, 1) := by decide +kernel
theorem dL_law_82 : decode cL_law 82 = .ok (.iconst 0, 1) := by decide +kernel
theorem dL_law_83 : decode cL_law 83 = .ok (.istore 7, 2) := by decide +kernel
theorem dL_law_85 : decode cL_law 85 = .ok (.iload 7, 2) := by decide +kernel
theorem dL_law_87 : decode cL_law 87 = .ok (.iload 6, 2) := by decide +kernel
theorem dL_law_89 : decode cL_law 89 = .ok (.if_icmp .ge 138, 3) := by decide +kernel
theorem dL_law_92 : decode cL_law 92 = .ok (.aload_n 2, 1) := by decide +kernel
theorem dL_law_93 : decode cL_law 93 = .ok (.bipush 8, 2) := by decide +kernel
theorem dL_law_95 : decode cL_law 95 = .ok (.iload 7, 2) := by decide +kernel
theorem dL_law_97 : decode cL_law 97 = .ok (.imul, 1) := by decide +kernel
theorem dL_law_98 : decode cL_law 98 = .ok (.aload_n 1, 1) := by decide +kernel
theorem dL_law_99 : decode cL_law 99 = .ok (.iload 7, 2) := by decide +kernel
theorem dL_law_101 : decode cL_law 101 = .ok (.iconst 2, 1) := by decide +kernel
theorem dL_law_102 : decode cL_law 102 = .ok (.invokevirtual 26, 3) := by decide +kernel
theorem dL_law_105 : decode cL_law 105 = .ok (.iastore, 1) := by decide +kernel
theorem dL_law_106 : decode cL_law 106 = .ok (.aload_n 2, 1) := by decide +kernel
theorem dL_law_107 : decode cL_law 107 = .ok (.bipush 8, 2) := by decide +kernel
theorem dL_law_109 : decode cL_law 109 = .ok (.iload 7, 2) := by decide +kernel
theorem dL_law_111 : decode cL_law 111 = .ok (.imul, 1) := by decide +kernel
theorem dL_law_112 : decode cL_law 112 = .ok (.iconst 1, 1) := by decide +kernel
theorem dL_law_113 : decode cL_law 113 = .ok (.iadd, 1) := by decide +kernel
theorem dL_law_114 : decode cL_law 114 = .ok (.aload_n 1, 1) := by decide +kernel
theorem dL_law_115 : decode cL_law 115 = .ok (.iload 7, 2) := by decide +kernel
theorem dL_law_117 : decode cL_law 117 = .ok (.iconst 5, 1) := by decide +kernel
theorem dL_law_118 : decode cL_law 118 = .ok (.invokevirtual 26, 3) := by decide +kernel
theorem dL_law_121 : decode cL_law 121 = .ok (.iastore, 1) := by decide +kernel
theorem dL_law_122 : decode cL_law 122 = .ok (.aload_n 2, 1) := by decide +kernel
theorem dL_law_123 : decode cL_law 123 = .ok (.bipush 8, 2) := by decide +kernel
theorem dL_law_125 : decode cL_law 125 = .ok (.iload 7, 2) := by decide +kernel
theorem dL_law_127 : decode cL_law 127 = .ok (.imul, 1) := by decide +kernel
theorem dL_law_128 : decode cL_law 128 = .ok (.iconst 2, 1) := by decide +kernel
theorem dL_law_129 : decode cL_law 129 = .ok (.iadd, 1) := by decide +kernel
theorem dL_law_130 : decode cL_law 130 = .ok (.aload_n 1, 1) := by decide +kernel
theorem dL_law_131 : decode cL_law 131 = .ok (.iload 7, 2) := by decide +kernel
theorem dL_law_133 : decode cL_law 133 = .ok (.iconst 1, 1) := by decide +kernel
theorem dL_law_134 : decode cL_law 134 = .ok (.invokevirtual 26, 3) := by decide +kernel
theorem dL_law_137 : decode cL_law 137 = .ok (.iastore, 1) := by decide +kernel
theorem dL_law_138 : decode cL_law 138 = .ok (.aload_n 2, 1) := by decide +kernel
theorem dL_law_139 : decode cL_law 139 = .ok (.iload 7, 2) := by decide +kernel
theorem dL_law_141 : decode cL_law 141 = .ok (.invokestatic 40, 3) := by decide +kernel
theorem dL_law_144 : decode cL_law 144 = .ok (.iconst 0, 1) := by decide +kernel
theorem dL_law_145 : decode cL_law 145 = .ok (.istore 8, 2) := by decide +kernel
theorem dL_law_147 : decode cL_law 147 = .ok (.iconst 0, 1) := by decide +kernel
theorem dL_law_148 : decode cL_law 148 = .ok (.istore 9, 2) := by decide +kernel
theorem dL_law_150 : decode cL_law 150 = .ok (.iload 9, 2) := by decide +kernel
theorem dL_law_152 : decode cL_law 152 = .ok (.iload 6, 2) := by decide +kernel
theorem dL_law_154 : decode cL_law 154 = .ok (.if_icmp .ge 60, 3) := by decide +kernel
theorem dL_law_157 : decode cL_law 157 = .ok (.iload 8, 2) := by decide +kernel
theorem dL_law_159 : decode cL_law 159 = .ok (.aload_n 1, 1) := by decide +kernel
theorem dL_law_160 : decode cL_law 160 = .ok (.iload 9, 2) := by decide +kernel
theorem dL_law_162 : decode cL_law 162 = .ok (.iconst 1, 1) := by decide +kernel
theorem dL_law_163 : decode cL_law 163 = .ok (.invokevirtual 26, 3) := by decide +kernel
theorem dL_law_166 : decode cL_law 166 = .ok (.aload_n 1, 1) := by decide +kernel
theorem dL_law_167 : decode cL_law 167 = .ok (.iload 7, 2) := by decide +kernel
theorem dL_law_169 : decode cL_law 169 = .ok (.iconst 1, 1) := by decide +kernel
theorem dL_law_170 : decode cL_law 170 = .ok (.invokevirtual 26, 3) := by decide +kernel
theorem dL_law_173 : decode cL_law 173 = .ok (.if_icmp .gt 27, 3) := by decide +kernel
theorem dL_law_176 : decode cL_law 176 = .ok (.iload 9, 2) := by decide +kernel
theorem dL_law_178 : decode cL_law 178 = .ok (.iload 7, 2) := by decide +kernel
theorem dL_law_180 : decode cL_law 180 = .ok (.if_icmp .ge 24, 3) := by decide +kernel
theorem dL_law_183 : decode cL_law 183 = .ok (.aload_n 1, 1) := by decide +kernel
theorem dL_law_184 : decode cL_law 184 = .ok (.iload 9, 2) := by decide +kernel
theorem dL_law_186 : decode cL_law 186 = .ok (.iconst 1, 1) := by decide +kernel
theorem dL_law_187 : decode cL_law 187 = .ok (.invokevirtual 26, 3) := by decide +kernel
theorem dL_law_190 : decode cL_law 190 = .ok (.aload_n 1, 1) := by decide +kernel
theorem dL_law_191 : decode cL_law 191 = .ok (.iload 7, 2) := by decide +kernel
theorem dL_law_193 : decode cL_law 193 = .ok (.iconst 1, 1) := by decide +kernel
theorem dL_law_194 : decode cL_law 194 = .ok (.invokevirtual 26, 3) := by decide +kernel
theorem dL_law_197 : decode cL_law 197 = .ok (.if_icmp .ne 7, 3) := by decide +kernel
theorem dL_law_200 : decode cL_law 200 = .ok (.iconst 1, 1) := by decide +kernel
theorem dL_law_201 : decode cL_law 201 = .ok (.goto 4, 3) := by decide +kernel
theorem dL_law_204 : decode cL_law 204 = .ok (.iconst 0, 1) := by decide +kernel
theorem dL_law_205 : decode cL_law 205 = .ok (.iadd, 1) := by decide +kernel
theorem dL_law_206 : decode cL_law 206 = .ok (.istore 8, 2) := by decide +kernel
theorem dL_law_208 : decode cL_law 208 = .ok (.iinc 9 1, 3) := by decide +kernel
theorem dL_law_211 : decode cL_law 211 = .ok (.goto (-61), 3) := by decide +kernel
theorem dL_law_214 : decode cL_law 214 = .ok (.aload 4, 2) := by decide +kernel
theorem dL_law_216 : decode cL_law 216 = .ok (.iload 8, 2) := by decide +kernel
theorem dL_law_218 : decode cL_law 218 = .ok (.iload 7, 2) := by decide +kernel
theorem dL_law_220 : decode cL_law 220 = .ok (.iastore, 1) := by decide +kernel
theorem dL_law_221 : decode cL_law 221 = .ok (.iinc 7 1, 3) := by decide +kernel
theorem dL_law_224 : decode cL_law 224 = .ok (.goto (-139), 3) := by decide +kernel
theorem dL_law_227 : decode cL_law 227 = .ok (.aload_n 1, 1) := by decide +kernel
theorem dL_law_228 : decode cL_law 228 = .ok (.aload_n 2, 1) := by decide +kernel
theorem dL_law_229 : decode cL_law 229 = .ok (.aload_n 3, 1) := by decide +kernel
theorem dL_law_230 : decode cL_law 230 = .ok (.aload 4, 2) := by decide +kernel
theorem dL_law_232 : decode cL_law 232 = .ok (.aload 5, 2) := by decide +kernel
theorem dL_law_234 : decode cL_law 234 = .ok (.invokestatic 90, 3) := by decide +kernel
theorem dL_law_237 : decode cL_law 237 = .ok (.ifCond .ne 5, 3) := by decide +kernel
theorem dL_law_240 : decode cL_law 240 = .ok (.iconst 0, 1) := by decide +kernel
theorem dL_law_241 : decode cL_law 241 = .ok (.ireturn, 1) := by decide +kernel
theorem dL_law_242 : decode cL_law 242 = .ok (.aload 5, 2) := by decide +kernel
theorem dL_law_244 : decode cL_law 244 = .ok (.iconst 1, 1) := by decide +kernel
theorem dL_law_245 : decode cL_law 245 = .ok (.iconst 1, 1) := by decide +kernel
theorem dL_law_246 : decode cL_law 246 = .ok (.iastore, 1) := by decide +kernel
theorem dL_law_247 : decode cL_law 247 = .ok (.aload_n 2, 1) := by decide +kernel
theorem dL_law_248 : decode cL_law 248 = .ok (.aload_n 3, 1) := by decide +kernel
theorem dL_law_249 : decode cL_law 249 = .ok (.aload 4, 2) := by decide +kernel
theorem dL_law_251 : decode cL_law 251 = .ok (.aload 5, 2) := by decide +kernel
theorem dL_law_253 : decode cL_law 253 = .ok (.iconst (-1), 1) := by decide +kernel
theorem dL_law_254 : decode cL_law 254 = .ok (.invokestatic 50, 3) := by decide +kernel
theorem dL_law_257 : decode cL_law 257 = .ok (.aload_n 1, 1) := by decide +kernel
theorem dL_law_258 : decode cL_law 258 = .ok (.invokevirtual 80, 3) := by decide +kernel
theorem dL_law_261 : decode cL_law 261 = .ok (.aload 5, 2) := by decide +kernel
theorem dL_law_263 : decode cL_law 263 = .ok (.iconst 0, 1) := by decide +kernel
theorem dL_law_264 : decode cL_law 264 = .ok (.iaload, 1) := by decide +kernel
theorem dL_law_265 : decode cL_law 265 = .ok (.if_icmp .ne 16, 3) := by decide +kernel
theorem dL_law_268 : decode cL_law 268 = .ok (.aload_n 1, 1) := by decide +kernel
theorem dL_law_269 : decode cL_law 269 = .ok (.aload_n 2, 1) := by decide +kernel
theorem dL_law_270 : decode cL_law 270 = .ok (.aload_n 3, 1) := by decide +kernel
theorem dL_law_271 : decode cL_law 271 = .ok (.aload 4, 2) := by decide +kernel
theorem dL_law_273 : decode cL_law 273 = .ok (.aload 5, 2) := by decide +kernel
theorem dL_law_275 : decode cL_law 275 = .ok (.invokestatic 90, 3) := by decide +kernel
theorem dL_law_278 : decode cL_law 278 = .ok (.ifCond .ne 5, 3) := by decide +kernel
theorem dL_law_281 : decode cL_law 281 = .ok (.iconst 0, 1) := by decide +kernel
theorem dL_law_282 : decode cL_law 282 = .ok (.ireturn, 1) := by decide +kernel
theorem dL_law_283 : decode cL_law 283 = .ok (.iconst 0, 1) := by decide +kernel
theorem dL_law_284 : decode cL_law 284 = .ok (.istore 7, 2) := by decide +kernel
theorem dL_law_286 : decode cL_law 286 = .ok (.iload 7, 2) := by decide +kernel
theorem dL_law_288 : decode cL_law 288 = .ok (.bipush 45, 2) := by decide +kernel
theorem dL_law_290 : decode cL_law 290 = .ok (.if_icmp .ge 601, 3) := by decide +kernel
theorem dL_law_293 : decode cL_law 293 = .ok (.aload_n 0, 1) := by decide +kernel
theorem dL_law_294 : decode cL_law 294 = .ok (.bipush 8, 2) := by decide +kernel
theorem dL_law_296 : decode cL_law 296 = .ok (.iload 7, 2) := by decide +kernel
theorem dL_law_298 : decode cL_law 298 = .ok (.iadd, 1) := by decide +kernel
theorem dL_law_299 : decode cL_law 299 = .ok (.invokestatic 10, 3) := by decide +kernel
theorem dL_law_302 : decode cL_law 302 = .ok (.istore 8, 2) := by decide +kernel
theorem dL_law_304 : decode cL_law 304 = .ok (.iload 8, 2) := by decide +kernel
theorem dL_law_306 : decode cL_law 306 = .ok (.bipush 9, 2) := by decide +kernel
theorem dL_law_308 : decode cL_law 308 = .ok (.invokestatic 16, 3) := by decide +kernel
theorem dL_law_311 : decode cL_law 311 = .ok (.istore 9, 2) := by decide +kernel
theorem dL_law_313 : decode cL_law 313 = .ok (.iload 8, 2) := by decide +kernel
theorem dL_law_315 : decode cL_law 315 = .ok (.iconst 4, 1) := by decide +kernel
theorem dL_law_316 : decode cL_law 316 = .ok (.ishr, 1) := by decide +kernel
theorem dL_law_317 : decode cL_law 317 = .ok (.iload 6, 2) := by decide +kernel
theorem dL_law_319 : decode cL_law 319 = .ok (.invokestatic 16, 3) := by decide +kernel
theorem dL_law_322 : decode cL_law 322 = .ok (.istore 10, 2) := by decide +kernel
theorem dL_law_324 : decode cL_law 324 = .ok (.aload 5, 2) := by decide +kernel
theorem dL_law_326 : decode cL_law 326 = .ok (.iconst 0, 1) := by decide +kernel
theorem dL_law_327 : decode cL_law 327 = .ok (.iaload, 1) := by decide +kernel
theorem dL_law_328 : decode cL_law 328 = .ok (.istore 11, 2) := by decide +kernel
theorem dL_law_330 : decode cL_law 330 = .ok (.iconst 1, 1) := by decide +kernel
theorem dL_law_331 : decode cL_law 331 = .ok (.istore 12, 2) := by decide +kernel
theorem dL_law_333 : decode cL_law 333 = .ok (.iload 11, 2) := by decide +kernel
theorem dL_law_335 : decode cL_law 335 = .ok (.ifCond .ge 27, 3) := by decide +kernel
theorem dL_law_338 : decode cL_law 338 = .ok (.aload_n 1, 1) := by decide +kernel
theorem dL_law_339 : decode cL_law 339 = .ok (.iconst 3, 1) := by decide +kernel
theorem dL_law_340 : decode cL_law 340 = .ok (.invokevirtual 32, 3) := by decide +kernel
theorem dL_law_343 : decode cL_law 343 = .ok (.aload_n 1, 1) := by decide +kernel
theorem dL_law_344 : decode cL_law 344 = .ok (.iconst 4, 1) := by decide +kernel
theorem dL_law_345 : decode cL_law 345 = .ok (.invokevirtual 32, 3) := by decide +kernel
theorem dL_law_348 : decode cL_law 348 = .ok (.iadd, 1) := by decide +kernel
theorem dL_law_349 : decode cL_law 349 = .ok (.ifCond .ne 7, 3) := by decide +kernel
theorem dL_law_352 : decode cL_law 352 = .ok (.iconst 1, 1) := by decide +kernel
theorem dL_law_353 : decode cL_law 353 = .ok (.goto 4, 3) := by decide +kernel
theorem dL_law_356 : decode cL_law 356 = .ok (.iconst 0, 1) := by decide +kernel
theorem dL_law_357 : decode cL_law 357 = .ok (.istore 12, 2) := by decide +kernel
theorem dL_law_359 : decode cL_law 359 = .ok (.goto 506, 3) := by decide +kernel
theorem dL_law_362 : decode cL_law 362 = .ok (.iload 9, 2) := by decide +kernel
theorem dL_law_364 : decode cL_law 364 = .ok (.iconst 4, 1) := by decide +kernel
theorem dL_law_365 : decode cL_law 365 = .ok (.if_icmp .ge 186, 3) := by decide +kernel
theorem dL_law_368 : decode cL_law 368 = .ok (.iload 9, 2) := by decide +kernel
theorem dL_law_370 : decode cL_law 370 = .ok (.iconst 1, 1) := by decide +kernel
theorem dL_law_371 : decode cL_law 371 = .ok (.if_icmp .ne 16, 3) := by decide +kernel
theorem dL_law_374 : decode cL_law 374 = .ok (.iload 8, 2) := by decide +kernel
theorem dL_law_376 : decode cL_law 376 = .ok (.bipush 8, 2) := by decide +kernel
theorem dL_law_378 : decode cL_law 378 = .ok (.ishr, 1) := by decide +kernel
theorem dL_law_379 : decode cL_law 379 = .ok (.bipush 10, 2) := by decide +kernel
theorem dL_law_381 : decode cL_law 381 = .ok (.invokestatic 16, 3) := by decide +kernel
theorem dL_law_384 : decode cL_law 384 = .ok (.goto 5, 3) := by decide +kernel
theorem dL_law_387 : decode cL_law 387 = .ok (.iload 10, 2) := by decide +kernel
theorem dL_law_389 : decode cL_law 389 = .ok (.istore 13, 2) := by decide +kernel
theorem dL_law_391 : decode cL_law 391 = .ok (.iload 8, 2) := by decide +kernel
theorem dL_law_393 : decode cL_law 393 = .ok (.bipush 12, 2) := by decide +kernel
theorem dL_law_395 : decode cL_law 395 = .ok (.ishr, 1) := by decide +kernel
theorem dL_law_396 : decode cL_law 396 = .ok (.iconst 4, 1) := by decide +kernel
theorem dL_law_397 : decode cL_law 397 = .ok (.invokestatic 16, 3) := by decide +kernel
theorem dL_law_400 : decode cL_law 400 = .ok (.istore 14, 2) := by decide +kernel
theorem dL_law_402 : decode cL_law 402 = .ok (.iconst 1, 1) := by decide +kernel
theorem dL_law_403 : decode cL_law 403 = .ok (.iload 8, 2) := by decide +kernel
theorem dL_law_405 : decode cL_law 405 = .ok (.bipush 14, 2) := by decide +kernel
theorem dL_law_407 : decode cL_law 407 = .ok (.ishr, 1) := by decide +kernel
theorem dL_law_408 : decode cL_law 408 = .ok (.iconst 5, 1) := by decide +kernel
theorem dL_law_409 : decode cL_law 409 = .ok (.invokestatic 16, 3) := by decide +kernel
theorem dL_law_412 : decode cL_law 412 = .ok (.iadd, 1) := by decide +kernel
theorem dL_law_413 : decode cL_law 413 = .ok (.istore 15, 2) := by decide +kernel
theorem dL_law_415 : decode cL_law 415 = .ok (.aload_n 1, 1) := by decide +kernel
theorem dL_law_416 : decode cL_law 416 = .ok (.aload_n 2, 1) := by decide +kernel
theorem dL_law_417 : decode cL_law 417 = .ok (.aload_n 3, 1) := by decide +kernel
theorem dL_law_418 : decode cL_law 418 = .ok (.iload 11, 2) := by decide +kernel
theorem dL_law_420 : decode cL_law 420 = .ok (.iload 9, 2) := by decide +kernel
theorem dL_law_422 : decode cL_law 422 = .ok (.iload 13, 2) := by decide +kernel
theorem dL_law_424 : decode cL_law 424 = .ok (.invokestatic 54, 3) := by decide +kernel
theorem dL_law_427 : decode cL_law 427 = .ok (.istore 16, 2) := by decide +kernel
theorem dL_law_429 : decode cL_law 429 = .ok (.aload_n 1, 1) := by decide +kernel
theorem dL_law_430 : decode cL_law 430 = .ok (.iload 9, 2) := by decide +kernel
theorem dL_law_432 : decode cL_law 432 = .ok (.iload 13, 2) := by decide +kernel
theorem dL_law_434 : decode cL_law 434 = .ok (.iconst 0, 1) := by decide +kernel
theorem dL_law_435 : decode cL_law 435 = .ok (.invokevirtual 94, 3) := by decide +kernel
theorem dL_law_438 : decode cL_law 438 = .ok (.iload 16, 2) := by decide +kernel
theorem dL_law_440 : decode cL_law 440 = .ok (.ifCond .eq 7, 3) := by decide +kernel
theorem dL_law_443 : decode cL_law 443 = .ok (.iconst 1, 1) := by decide +kernel
theorem dL_law_444 : decode cL_law 444 = .ok (.goto 4, 3) := by decide +kernel
theorem dL_law_447 : decode cL_law 447 = .ok (.iconst 0, 1) := by decide +kernel
theorem dL_law_448 : decode cL_law 448 = .ok (.if_icmp .eq 5, 3) := by decide +kernel
theorem dL_law_451 : decode cL_law 451 = .ok (.iconst 0, 1) := by decide +kernel
theorem dL_law_452 : decode cL_law 452 = .ok (.ireturn, 1) := by decide +kernel
theorem dL_law_453 : decode cL_law 453 = .ok (.iload 16, 2) := by decide +kernel
theorem dL_law_455 : decode cL_law 455 = .ok (.ifCond .eq 93, 3) := by decide +kernel
theorem dL_law_458 : decode cL_law 458 = .ok (.aload_n 1, 1) := by decide +kernel
theorem dL_law_459 : decode cL_law 459 = .ok (.aload_n 2, 1) := by decide +kernel
theorem dL_law_460 : decode cL_law 460 = .ok (.aload_n 3, 1) := by decide +kernel
theorem dL_law_461 : decode cL_law 461 = .ok (.aload 4, 2) := by decide +kernel
theorem dL_law_463 : decode cL_law 463 = .ok (.aload 5, 2) := by decide +kernel
theorem dL_law_465 : decode cL_law 465 = .ok (.iload 9, 2) := by decide +kernel
theorem dL_law_467 : decode cL_law 467 = .ok (.iload 13, 2) := by decide +kernel
theorem dL_law_469 : decode cL_law 469 = .ok (.iload 14, 2) := by decide +kernel
theorem dL_law_471 : decode cL_law 471 = .ok (.iload 15, 2) := by decide +kernel
theorem dL_law_473 : decode cL_law 473 = .ok (.invokestatic 98, 3) := by decide +kernel
theorem dL_law_476 : decode cL_law 476 = .ok (.istore 17, 2) := by decide +kernel
theorem dL_law_478 : decode cL_law 478 = .ok (.iload 9, 2) := by decide +kernel
theorem dL_law_480 : decode cL_law 480 = .ok (.ifCond .ne 12, 3) := by decide +kernel
theorem dL_law_483 : decode cL_law 483 = .ok (.aload_n 1, 1) := by decide +kernel
theorem dL_law_484 : decode cL_law 484 = .ok (.iload 13, 2) := by decide +kernel
theorem dL_law_486 : decode cL_law 486 = .ok (.invokevirtual 102, 3) := by decide +kernel
theorem dL_law_489 : decode cL_law 489 = .ok (.goto 43, 3) := by decide +kernel
theorem dL_law_492 : decode cL_law 492 = .ok (.iload 9, 2) := by decide +kernel
theorem dL_law_494 : decode cL_law 494 = .ok (.iconst 1, 1) := by decide +kernel
theorem dL_law_495 : decode cL_law 495 = .ok (.if_icmp .ne 12, 3) := by decide +kernel
theorem dL_law_498 : decode cL_law 498 = .ok (.aload_n 1, 1) := by decide +kernel
theorem dL_law_499 : decode cL_law 499 = .ok (.iload 13, 2) := by decide +kernel
theorem dL_law_501 : decode cL_law 501 = .ok (.invokevirtual 105, 3) := by decide +kernel
theorem dL_law_504 : decode cL_law 504 = .ok (.goto 28, 3) := by decide +kernel
theorem dL_law_507 : decode cL_law 507 = .ok (.iload 9, 2) := by decide +kernel
theorem dL_law_509 : decode cL_law 509 = .ok (.iconst 2, 1) := by decide +kernel
theorem dL_law_510 : decode cL_law 510 = .ok (.if_icmp .ne 12, 3) := by decide +kernel
theorem dL_law_513 : decode cL_law 513 = .ok (.aload_n 1, 1) := by decide +kernel
theorem dL_law_514 : decode cL_law 514 = .ok (.iload 13, 2) := by decide +kernel
theorem dL_law_516 : decode cL_law 516 = .ok (.invokevirtual 108, 3) := by decide +kernel
theorem dL_law_519 : decode cL_law 519 = .ok (.goto 13, 3) := by decide +kernel
theorem dL_law_522 : decode cL_law 522 = .ok (.aload_n 1, 1) := by decide +kernel
theorem dL_law_523 : decode cL_law 523 = .ok (.iload 13, 2) := by decide +kernel
theorem dL_law_525 : decode cL_law 525 = .ok (.iload 14, 2) := by decide +kernel
theorem dL_law_527 : decode cL_law 527 = .ok (.iload 15, 2) := by decide +kernel
theorem dL_law_529 : decode cL_law 529 = .ok (.invokevirtual 111, 3) := by decide +kernel
theorem dL_law_532 : decode cL_law 532 = .ok (.istore 18, 2) := by decide +kernel
theorem dL_law_534 : decode cL_law 534 = .ok (.iload 18, 2) := by decide +kernel
theorem dL_law_536 : decode cL_law 536 = .ok (.iload 17, 2) := by decide +kernel
theorem dL_law_538 : decode cL_law 538 = .ok (.if_icmp .ne 7, 3) := by decide +kernel
theorem dL_law_541 : decode cL_law 541 = .ok (.iconst 1, 1) := by decide +kernel
theorem dL_law_542 : decode cL_law 542 = .ok (.goto 4, 3) := by decide +kernel
theorem dL_law_545 : decode cL_law 545 = .ok (.iconst 0, 1) := by decide +kernel
theorem dL_law_546 : decode cL_law 546 = .ok (.istore 12, 2) := by decide +kernel
theorem dL_law_548 : decode cL_law 548 = .ok (.goto 317, 3) := by decide +kernel
theorem dL_law_551 : decode cL_law 551 = .ok (.iload 9, 2) := by decide +kernel
theorem dL_law_553 : decode cL_law 553 = .ok (.iconst 4, 1) := by decide +kernel
theorem dL_law_554 : decode cL_law 554 = .ok (.if_icmp .ne 43, 3) := by decide +kernel
theorem dL_law_557 : decode cL_law 557 = .ok (.aload_n 2, 1) := by decide +kernel
theorem dL_law_558 : decode cL_law 558 = .ok (.bipush 8, 2) := by decide +kernel
theorem dL_law_560 : decode cL_law 560 = .ok (.iload 11, 2) := by decide +kernel
theorem dL_law_562 : decode cL_law 562 = .ok (.imul, 1) := by decide +kernel
theorem dL_law_563 : decode cL_law 563 = .ok (.iconst 3, 1) := by decide +kernel
theorem dL_law_564 : decode cL_law 564 = .ok (.iadd, 1) := by decide +kernel
theorem dL_law_565 : decode cL_law 565 = .ok (.iconst 1, 1) := by decide +kernel
theorem dL_law_566 : decode cL_law 566 = .ok (.iastore, 1) := by decide +kernel
theorem dL_law_567 : decode cL_law 567 = .ok (.aload_n 2, 1) := by decide +kernel
theorem dL_law_568 : decode cL_law 568 = .ok (.aload_n 3, 1) := by decide +kernel
theorem dL_law_569 : decode cL_law 569 = .ok (.aload 4, 2) := by decide +kernel
theorem dL_law_571 : decode cL_law 571 = .ok (.aload 5, 2) := by decide +kernel
theorem dL_law_573 : decode cL_law 573 = .ok (.invokestatic 66, 3) := by decide +kernel
theorem dL_law_576 : decode cL_law 576 = .ok (.aload_n 1, 1) := by decide +kernel
theorem dL_law_577 : decode cL_law 577 = .ok (.invokevirtual 114, 3) := by decide +kernel
theorem dL_law_580 : decode cL_law 580 = .ok (.aload 5, 2) := by decide +kernel
theorem dL_law_582 : decode cL_law 582 = .ok (.iconst 0, 1) := by decide +kernel
theorem dL_law_583 : decode cL_law 583 = .ok (.iaload, 1) := by decide +kernel
theorem dL_law_584 : decode cL_law 584 = .ok (.if_icmp .ne 7, 3) := by decide +kernel
theorem dL_law_587 : decode cL_law 587 = .ok (.iconst 1, 1) := by decide +kernel
theorem dL_law_588 : decode cL_law 588 = .ok (.goto 4, 3) := by decide +kernel
theorem dL_law_591 : decode cL_law 591 = .ok (.iconst 0, 1) := by decide +kernel
theorem dL_law_592 : decode cL_law 592 = .ok (.istore 12, 2) := by decide +kernel
theorem dL_law_594 : decode cL_law 594 = .ok (.goto 271, 3) := by decide +kernel
theorem dL_law_597 : decode cL_law 597 = .ok (.iload 9, 2) := by decide +kernel
theorem dL_law_599 : decode cL_law 599 = .ok (.bipush 7, 2) := by decide +kernel
theorem dL_law_601 : decode cL_law 601 = .ok (.if_icmp .ge 157, 3) := by decide +kernel
theorem dL_law_604 : decode cL_law 604 = .ok (.iload 10, 2) := by decide +kernel
theorem dL_law_606 : decode cL_law 606 = .ok (.iload 11, 2) := by decide +kernel
theorem dL_law_608 : decode cL_law 608 = .ok (.if_icmp .eq 150, 3) := by decide +kernel
theorem dL_law_611 : decode cL_law 611 = .ok (.iload 8, 2) := by decide +kernel
theorem dL_law_613 : decode cL_law 613 = .ok (.bipush 9, 2) := by decide +kernel
theorem dL_law_615 : decode cL_law 615 = .ok (.ishr, 1) := by decide +kernel
theorem dL_law_616 : decode cL_law 616 = .ok (.iload 6, 2) := by decide +kernel
theorem dL_law_618 : decode cL_law 618 = .ok (.iconst 1, 1) := by decide +kernel
theorem dL_law_619 : decode cL_law 619 = .ok (.iadd, 1) := by decide +kernel
theorem dL_law_620 : decode cL_law 620 = .ok (.invokestatic 16, 3) := by decide +kernel
theorem dL_law_623 : decode cL_law 623 = .ok (.iconst 1, 1) := by decide +kernel
theorem dL_law_624 : decode cL_law 624 = .ok (.isub, 1) := by decide +kernel
theorem dL_law_625 : decode cL_law 625 = .ok (.istore 13, 2) := by decide +kernel
theorem dL_law_627 : decode cL_law 627 = .ok (.iload 13, 2) := by decide +kernel
theorem dL_law_629 : decode cL_law 629 = .ok (.iload 11, 2) := by decide +kernel
theorem dL_law_631 : decode cL_law 631 = .ok (.if_icmp .ne 7, 3) := by decide +kernel
theorem dL_law_634 : decode cL_law 634 = .ok (.iconst (-1), 1) := by decide +kernel
theorem dL_law_635 : decode cL_law 635 = .ok (.goto 5, 3) := by decide +kernel
theorem dL_law_638 : decode cL_law 638 = .ok (.iload 13, 2) := by decide +kernel
theorem dL_law_640 : decode cL_law 640 = .ok (.istore 13, 2) := by decide +kernel
theorem dL_law_642 : decode cL_law 642 = .ok (.aload_n 2, 1) := by decide +kernel
theorem dL_law_643 : decode cL_law 643 = .ok (.bipush 8, 2) := by decide +kernel
theorem dL_law_645 : decode cL_law 645 = .ok (.iload 11, 2) := by decide +kernel
theorem dL_law_647 : decode cL_law 647 = .ok (.imul, 1) := by decide +kernel
theorem dL_law_648 : decode cL_law 648 = .ok (.iconst 4, 1) := by decide +kernel
theorem dL_law_649 : decode cL_law 649 = .ok (.iadd, 1) := by decide +kernel
theorem dL_law_650 : decode cL_law 650 = .ok (.iconst 2, 1) := by decide +kernel
theorem dL_law_651 : decode cL_law 651 = .ok (.iload 8, 2) := by decide +kernel
theorem dL_law_653 : decode cL_law 653 = .ok (.bipush 13, 2) := by decide +kernel
theorem dL_law_655 : decode cL_law 655 = .ok (.ishr, 1) := by decide +kernel
theorem dL_law_656 : decode cL_law 656 = .ok (.iconst 2, 1) := by decide +kernel
theorem dL_law_657 : decode cL_law 657 = .ok (.invokestatic 16, 3) := by decide +kernel
theorem dL_law_660 : decode cL_law 660 = .ok (.imul, 1) := by decide +kernel
theorem dL_law_661 : decode cL_law 661 = .ok (.iastore, 1) := by decide +kernel
theorem dL_law_662 : decode cL_law 662 = .ok (.aload_n 2, 1) := by decide +kernel
theorem dL_law_663 : decode cL_law 663 = .ok (.bipush 8, 2) := by decide +kernel
theorem dL_law_665 : decode cL_law 665 = .ok (.iload 11, 2) := by decide +kernel
theorem dL_law_667 : decode cL_law 667 = .ok (.imul, 1) := by decide +kernel
theorem dL_law_668 : decode cL_law 668 = .ok (.iconst 5, 1) := by decide +kernel
theorem dL_law_669 : decode cL_law 669 = .ok (.iadd, 1) := by decide +kernel
theorem dL_law_670 : decode cL_law 670 = .ok (.iload 10, 2) := by decide +kernel
theorem dL_law_672 : decode cL_law 672 = .ok (.iastore, 1) := by decide +kernel
theorem dL_law_673 : decode cL_law 673 = .ok (.aload_n 2, 1) := by decide +kernel
theorem dL_law_674 : decode cL_law 674 = .ok (.bipush 8, 2) := by decide +kernel
theorem dL_law_676 : decode cL_law 676 = .ok (.iload 11, 2) := by decide +kernel
theorem dL_law_678 : decode cL_law 678 = .ok (.imul, 1) := by decide +kernel
theorem dL_law_679 : decode cL_law 679 = .ok (.bipush 6, 2) := by decide +kernel
theorem dL_law_681 : decode cL_law 681 = .ok (.iadd, 1) := by decide +kernel
theorem dL_law_682 : decode cL_law 682 = .ok (.iload 13, 2) := by decide +kernel
theorem dL_law_684 : decode cL_law 684 = .ok (.iastore, 1) := by decide +kernel
theorem dL_law_685 : decode cL_law 685 = .ok (.aload_n 2, 1) := by decide +kernel
theorem dL_law_686 : decode cL_law 686 = .ok (.bipush 8, 2) := by decide +kernel
theorem dL_law_688 : decode cL_law 688 = .ok (.iload 11, 2) := by decide +kernel
theorem dL_law_690 : decode cL_law 690 = .ok (.imul, 1) := by decide +kernel
theorem dL_law_691 : decode cL_law 691 = .ok (.bipush 7, 2) := by decide +kernel
theorem dL_law_693 : decode cL_law 693 = .ok (.iadd, 1) := by decide +kernel
theorem dL_law_694 : decode cL_law 694 = .ok (.iload 8, 2) := by decide +kernel
theorem dL_law_696 : decode cL_law 696 = .ok (.bipush 14, 2) := by decide +kernel
theorem dL_law_698 : decode cL_law 698 = .ok (.ishr, 1) := by decide +kernel
theorem dL_law_699 : decode cL_law 699 = .ok (.iconst 4, 1) := by decide +kernel
theorem dL_law_700 : decode cL_law 700 = .ok (.invokestatic 16, 3) := by decide +kernel
theorem dL_law_703 : decode cL_law 703 = .ok (.iastore, 1) := by decide +kernel
theorem dL_law_704 : decode cL_law 704 = .ok (.aload_n 2, 1) := by decide +kernel
theorem dL_law_705 : decode cL_law 705 = .ok (.aload_n 3, 1) := by decide +kernel
theorem dL_law_706 : decode cL_law 706 = .ok (.aload 4, 2) := by decide +kernel
theorem dL_law_708 : decode cL_law 708 = .ok (.aload 5, 2) := by decide +kernel
theorem dL_law_710 : decode cL_law 710 = .ok (.invokestatic 66, 3) := by decide +kernel
theorem dL_law_713 : decode cL_law 713 = .ok (.aload_n 1, 1) := by decide +kernel
theorem dL_law_714 : decode cL_law 714 = .ok (.iconst 2, 1) := by decide +kernel
theorem dL_law_715 : decode cL_law 715 = .ok (.iload 8, 2) := by decide +kernel
theorem dL_law_717 : decode cL_law 717 = .ok (.bipush 13, 2) := by decide +kernel
theorem dL_law_719 : decode cL_law 719 = .ok (.ishr, 1) := by decide +kernel
theorem dL_law_720 : decode cL_law 720 = .ok (.iconst 2, 1) := by decide +kernel
theorem dL_law_721 : decode cL_law 721 = .ok (.invokestatic 16, 3) := by decide +kernel
theorem dL_law_724 : decode cL_law 724 = .ok (.imul, 1) := by decide +kernel
theorem dL_law_725 : decode cL_law 725 = .ok (.iload 10, 2) := by decide +kernel
theorem dL_law_727 : decode cL_law 727 = .ok (.iload 13, 2) := by decide +kernel
theorem dL_law_729 : decode cL_law 729 = .ok (.iload 8, 2) := by decide +kernel
theorem dL_law_731 : decode cL_law 731 = .ok (.bipush 14, 2) := by decide +kernel
theorem dL_law_733 : decode cL_law 733 = .ok (.ishr, 1) := by decide +kernel
theorem dL_law_734 : decode cL_law 734 = .ok (.iconst 4, 1) := by decide +kernel
theorem dL_law_735 : decode cL_law 735 = .ok (.invokestatic 16, 3) := by decide +kernel
theorem dL_law_738 : decode cL_law 738 = .ok (.invokevirtual 117, 3) := by decide +kernel
theorem dL_law_741 : decode cL_law 741 = .ok (.aload 5, 2) := by decide +kernel
theorem dL_law_743 : decode cL_law 743 = .ok (.iconst 0, 1) := by decide +kernel
theorem dL_law_744 : decode cL_law 744 = .ok (.iaload, 1) := by decide +kernel
theorem dL_law_745 : decode cL_law 745 = .ok (.if_icmp .ne 7, 3) := by decide +kernel
theorem dL_law_748 : decode cL_law 748 = .ok (.iconst 1, 1) := by decide +kernel
theorem dL_law_749 : decode cL_law 749 = .ok (.goto 4, 3) := by decide +kernel
theorem dL_law_752 : decode cL_law 752 = .ok (.iconst 0, 1) := by decide +kernel
theorem dL_law_753 : decode cL_law 753 = .ok (.istore 12, 2) := by decide +kernel
theorem dL_law_755 : decode cL_law 755 = .ok (.goto 110, 3) := by decide +kernel
theorem dL_law_758 : decode cL_law 758 = .ok (.iload 9, 2) := by decide +kernel
theorem dL_law_760 : decode cL_law 760 = .ok (.bipush 7, 2) := by decide +kernel
theorem dL_law_762 : decode cL_law 762 = .ok (.if_icmp .ne 76, 3) := by decide +kernel
theorem dL_law_765 : decode cL_law 765 = .ok (.aload_n 2, 1) := by decide +kernel
theorem dL_law_766 : decode cL_law 766 = .ok (.iload 10, 2) := by decide +kernel
theorem dL_law_768 : decode cL_law 768 = .ok (.invokestatic 36, 3) := by decide +kernel
theorem dL_law_771 : decode cL_law 771 = .ok (.ifCond .eq 94, 3) := by decide +kernel
theorem dL_law_774 : decode cL_law 774 = .ok (.aload_n 2, 1) := by decide +kernel
theorem dL_law_775 : decode cL_law 775 = .ok (.bipush 8, 2) := by decide +kernel
theorem dL_law_777 : decode cL_law 777 = .ok (.iload 10, 2) := by decide +kernel
theorem dL_law_779 : decode cL_law 779 = .ok (.imul, 1) := by decide +kernel
theorem dL_law_780 : decode cL_law 780 = .ok (.iconst 3, 1) := by decide +kernel
theorem dL_law_781 : decode cL_law 781 = .ok (.iadd, 1) := by decide +kernel
theorem dL_law_782 : decode cL_law 782 = .ok (.iaload, 1) := by decide +kernel
theorem dL_law_783 : decode cL_law 783 = .ok (.iconst 1, 1) := by decide +kernel
theorem dL_law_784 : decode cL_law 784 = .ok (.if_icmp .ne 81, 3) := by decide +kernel
theorem dL_law_787 : decode cL_law 787 = .ok (.aload_n 2, 1) := by decide +kernel
theorem dL_law_788 : decode cL_law 788 = .ok (.aload 4, 2) := by decide +kernel
theorem dL_law_790 : decode cL_law 790 = .ok (.iload 6, 2) := by decide +kernel
theorem dL_law_792 : decode cL_law 792 = .ok (.iload 10, 2) := by decide +kernel
theorem dL_law_794 : decode cL_law 794 = .ok (.iload 11, 2) := by decide +kernel
theorem dL_law_796 : decode cL_law 796 = .ok (.iconst 1, 1) := by decide +kernel
theorem dL_law_797 : decode cL_law 797 = .ok (.invokestatic 62, 3) := by decide +kernel
theorem dL_law_800 : decode cL_law 800 = .ok (.aload_n 2, 1) := by decide +kernel
theorem dL_law_801 : decode cL_law 801 = .ok (.bipush 8, 2) := by decide +kernel
theorem dL_law_803 : decode cL_law 803 = .ok (.iload 10, 2) := by decide +kernel
theorem dL_law_805 : decode cL_law 805 = .ok (.imul, 1) := by decide +kernel
theorem dL_law_806 : decode cL_law 806 = .ok (.iconst 3, 1) := by decide +kernel
theorem dL_law_807 : decode cL_law 807 = .ok (.iadd, 1) := by decide +kernel
theorem dL_law_808 : decode cL_law 808 = .ok (.iconst 0, 1) := by decide +kernel
theorem dL_law_809 : decode cL_law 809 = .ok (.iastore, 1) := by decide +kernel
theorem dL_law_810 : decode cL_law 810 = .ok (.aload_n 1, 1) := by decide +kernel
theorem dL_law_811 : decode cL_law 811 = .ok (.iload 10, 2) := by decide +kernel
theorem dL_law_813 : decode cL_law 813 = .ok (.invokevirtual 120, 3) := by decide +kernel
theorem dL_law_816 : decode cL_law 816 = .ok (.aload_n 2, 1) := by decide +kernel
theorem dL_law_817 : decode cL_law 817 = .ok (.bipush 8, 2) := by decide +kernel
theorem dL_law_819 : decode cL_law 819 = .ok (.iload 10, 2) := by decide +kernel
theorem dL_law_821 : decode cL_law 821 = .ok (.imul, 1) := by decide +kernel
theorem dL_law_822 : decode cL_law 822 = .ok (.iconst 2, 1) := by decide +kernel
theorem dL_law_823 : decode cL_law 823 = .ok (.iadd, 1) := by decide +kernel
theorem dL_law_824 : decode cL_law 824 = .ok (.iaload, 1) := by decide +kernel
theorem dL_law_825 : decode cL_law 825 = .ok (.if_icmp .ne 7, 3) := by decide +kernel
theorem dL_law_828 : decode cL_law 828 = .ok (.iconst 1, 1) := by decide +kernel
theorem dL_law_829 : decode cL_law 829 = .ok (.goto 4, 3) := by decide +kernel
theorem dL_law_832 : decode cL_law 832 = .ok (.iconst 0, 1) := by decide +kernel
theorem dL_law_833 : decode cL_law 833 = .ok (.istore 12, 2) := by decide +kernel
theorem dL_law_835 : decode cL_law 835 = .ok (.goto 30, 3) := by decide +kernel
theorem dL_law_838 : decode cL_law 838 = .ok (.aload_n 2, 1) := by decide +kernel
theorem dL_law_839 : decode cL_law 839 = .ok (.aload_n 3, 1) := by decide +kernel
theorem dL_law_840 : decode cL_law 840 = .ok (.aload 4, 2) := by decide +kernel
theorem dL_law_842 : decode cL_law 842 = .ok (.aload 5, 2) := by decide +kernel
theorem dL_law_844 : decode cL_law 844 = .ok (.invokestatic 66, 3) := by decide +kernel
theorem dL_law_847 : decode cL_law 847 = .ok (.aload_n 1, 1) := by decide +kernel
theorem dL_law_848 : decode cL_law 848 = .ok (.invokevirtual 123, 3) := by decide +kernel
theorem dL_law_851 : decode cL_law 851 = .ok (.aload 5, 2) := by decide +kernel
theorem dL_law_853 : decode cL_law 853 = .ok (.iconst 0, 1) := by decide +kernel
theorem dL_law_854 : decode cL_law 854 = .ok (.iaload, 1) := by decide +kernel
theorem dL_law_855 : decode cL_law 855 = .ok (.if_icmp .ne 7, 3) := by decide +kernel
theorem dL_law_858 : decode cL_law 858 = .ok (.iconst 1, 1) := by decide +kernel
theorem dL_law_859 : decode cL_law 859 = .ok (.goto 4, 3) := by decide +kernel
theorem dL_law_862 : decode cL_law 862 = .ok (.iconst 0, 1) := by decide +kernel
theorem dL_law_863 : decode cL_law 863 = .ok (.istore 12, 2) := by decide +kernel
theorem dL_law_865 : decode cL_law 865 = .ok (.iload 12, 2) := by decide +kernel
theorem dL_law_867 : decode cL_law 867 = .ok (.ifCond .eq 16, 3) := by decide +kernel
theorem dL_law_870 : decode cL_law 870 = .ok (.aload_n 1, 1) := by decide +kernel
theorem dL_law_871 : decode cL_law 871 = .ok (.aload_n 2, 1) := by decide +kernel
theorem dL_law_872 : decode cL_law 872 = .ok (.aload_n 3, 1) := by decide +kernel
theorem dL_law_873 : decode cL_law 873 = .ok (.aload 4, 2) := by decide +kernel
theorem dL_law_875 : decode cL_law 875 = .ok (.aload 5, 2) := by decide +kernel
theorem dL_law_877 : decode cL_law 877 = .ok (.invokestatic 90, 3) := by decide +kernel
theorem dL_law_880 : decode cL_law 880 = .ok (.ifCond .ne 5, 3) := by decide +kernel
theorem dL_law_883 : decode cL_law 883 = .ok (.iconst 0, 1) := by decide +kernel
theorem dL_law_884 : decode cL_law 884 = .ok (.ireturn, 1) := by decide +kernel
theorem dL_law_885 : decode cL_law 885 = .ok (.iinc 7 1, 3) := by decide +kernel
theorem dL_law_888 : decode cL_law 888 = .ok (.goto (-602), 3) := by decide +kernel
theorem dL_law_891 : decode cL_law 891 = .ok (.iconst 1, 1) := by decide +kernel
theorem dL_law_892 : decode cL_law 892 = .ok (.ireturn, 1) := by decide +kernel
