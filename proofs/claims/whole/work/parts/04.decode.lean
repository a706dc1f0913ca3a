theorem dX0_init_0 : decode cX0_init 0 = .ok (.aload_n 0, 1) := by decide +kernel
theorem dX0_init_1 : decode cX0_init 1 = .ok (.invokespecial 3, 3) := by decide +kernel
theorem dX0_init_4 : decode cX0_init 4 = .ok (.aload_n 0, 1) := by decide +kernel
theorem dX0_init_5 : decode cX0_init 5 = .ok (.iconst 4, 1) := by decide +kernel
theorem dX0_init_6 : decode cX0_init 6 = .ok (.newarray .int, 2) := by decide +kernel
theorem dX0_init_8 : decode cX0_init 8 = .ok (.putfield 9, 3) := by decide +kernel
theorem dX0_init_11 : decode cX0_init 11 = .ok (.aload_n 0, 1) := by decide +kernel
theorem dX0_init_12 : decode cX0_init 12 = .ok (.iconst (-1), 1) := by decide +kernel
theorem dX0_init_13 : decode cX0_init 13 = .ok (.putfield 15, 3) := by decide +kernel
theorem dX0_init_16 : decode cX0_init 16 = .ok (.aload_n 0, 1) := by decide +kernel
theorem dX0_init_17 : decode cX0_init 17 = .ok (.iconst (-1), 1) := by decide +kernel
theorem dX0_init_18 : decode cX0_init 18 = .ok (.putfield 19, 3) := by decide +kernel
theorem dX0_init_21 : decode cX0_init 21 = .ok (.aload_n 0, 1) := by decide +kernel
theorem dX0_init_22 : decode cX0_init 22 = .ok (.iconst (-1), 1) := by decide +kernel
theorem dX0_init_23 : decode cX0_init 23 = .ok (.putfield 22, 3) := by decide +kernel
theorem dX0_init_26 : decode cX0_init 26 = .ok (.aload_n 0, 1) := by decide +kernel
theorem dX0_init_27 : decode cX0_init 27 = .ok (.iconst (-1), 1) := by decide +kernel
theorem dX0_init_28 : decode cX0_init 28 = .ok (.putfield 25, 3) := by decide +kernel
theorem dX0_init_31 : decode cX0_init 31 = .ok (.return_, 1) := by decide +kernel
theorem dX0_reset_0 : decode cX0_reset 0 = .ok (.aload_n 0, 1) := by decide +kernel
theorem dX0_reset_1 : decode cX0_reset 1 = .ok (.iload_n 1, 1) := by decide +kernel
theorem dX0_reset_2 : decode cX0_reset 2 = .ok (.putfield 28, 3) := by decide +kernel
theorem dX0_reset_5 : decode cX0_reset 5 = .ok (.aload_n 0, 1) := by decide +kernel
theorem dX0_reset_6 : decode cX0_reset 6 = .ok (.iload_n 2, 1) := by decide +kernel
theorem dX0_reset_7 : decode cX0_reset 7 = .ok (.putfield 31, 3) := by decide +kernel
theorem dX0_reset_10 : decode cX0_reset 10 = .ok (.aload_n 0, 1) := by decide +kernel
theorem dX0_reset_11 : decode cX0_reset 11 = .ok (.iload_n 3, 1) := by decide +kernel
theorem dX0_reset_12 : decode cX0_reset 12 = .ok (.putfield 34, 3) := by decide +kernel
theorem dX0_reset_15 : decode cX0_reset 15 = .ok (.aload_n 0, 1) := by decide +kernel
theorem dX0_reset_16 : decode cX0_reset 16 = .ok (.iload_n 3, 1) := by decide +kernel
theorem dX0_reset_17 : decode cX0_reset 17 = .ok (.putfield 37, 3) := by decide +kernel
theorem dX0_reset_20 : decode cX0_reset 20 = .ok (.aload_n 0, 1) := by decide +kernel
theorem dX0_reset_21 : decode cX0_reset 21 = .ok (.iload 4, 2) := by decide +kernel
theorem dX0_reset_23 : decode cX0_reset 23 = .ok (.putfield 40, 3) := by decide +kernel
theorem dX0_reset_26 : decode cX0_reset 26 = .ok (.aload_n 0, 1) := by decide +kernel
theorem dX0_reset_27 : decode cX0_reset 27 = .ok (.iload_n 1, 1) := by decide +kernel
theorem dX0_reset_28 : decode cX0_reset 28 = .ok (.ifCond .ne 7, 3) := by decide +kernel
theorem dX0_reset_31 : decode cX0_reset 31 = .ok (.iconst 0, 1) := by decide +kernel
theorem dX0_reset_32 : decode cX0_reset 32 = .ok (.goto 5, 3) := by decide +kernel
theorem dX0_reset_35 : decode cX0_reset 35 = .ok (.bipush 9, 2) := by decide +kernel
theorem dX0_reset_37 : decode cX0_reset 37 = .ok (.putfield 43, 3) := by decide +kernel
theorem dX0_reset_40 : decode cX0_reset 40 = .ok (.iconst 0, 1) := by decide +kernel
theorem dX0_reset_41 : decode cX0_reset 41 = .ok (.istore 5, 2) := by decide +kernel
theorem dX0_reset_43 : decode cX0_reset 43 = .ok (.iload 5, 2) := by decide +kernel
theorem dX0_reset_45 : decode cX0_reset 45 = .ok (.aload_n 0, 1) := by decide +kernel
theorem dX0_reset_46 : decode cX0_reset 46 = .ok (.getfield 9, 3) := by decide +kernel
theorem dX0_reset_49 : decode cX0_reset 49 = .ok (.arraylength, 1) := by decide +kernel
theorem dX0_reset_50 : decode cX0_reset 50 = .ok (.if_icmp .ge 17, 3) := by decide +kernel
theorem dX0_reset_53 : decode cX0_reset 53 = .ok (.aload_n 0, 1) := by decide +kernel
theorem dX0_reset_54 : decode cX0_reset 54 = .ok (.getfield 9, 3) := by decide +kernel
theorem dX0_reset_57 : decode cX0_reset 57 = .ok (.iload 5, 2) := by decide +kernel
theorem dX0_reset_59 : decode cX0_reset 59 = .ok (.iconst 0, 1) := by decide +kernel
theorem dX0_reset_60 : decode cX0_reset 60 = .ok (.iastore, 1) := by decide +kernel
theorem dX0_reset_61 : decode cX0_reset 61 = .ok (.iinc 5 1, 3) := by decide +kernel
theorem dX0_reset_64 : decode cX0_reset 64 = .ok (.goto (-21), 3) := by decide +kernel
theorem dX0_reset_67 : decode cX0_reset 67 = .ok (.aload_n 0, 1) := by decide +kernel
theorem dX0_reset_68 : decode cX0_reset 68 = .ok (.iconst 0, 1) := by decide +kernel
theorem dX0_reset_69 : decode cX0_reset 69 = .ok (.putfield 46, 3) := by decide +kernel
theorem dX0_reset_72 : decode cX0_reset 72 = .ok (.aload_n 0, 1) := by decide +kernel
theorem dX0_reset_73 : decode cX0_reset 73 = .ok (.invokevirtual 50, 3) := by decide +kernel
theorem dX0_reset_76 : decode cX0_reset 76 = .ok (.aload_n 0, 1) := by decide +kernel
theorem dX0_reset_77 : decode cX0_reset 77 = .ok (.iconst 0, 1) := by decide +kernel
theorem dX0_reset_78 : decode cX0_reset 78 = .ok (.putfield 53, 3) := by decide +kernel
theorem dX0_reset_81 : decode cX0_reset 81 = .ok (.aload_n 0, 1) := by decide +kernel
theorem dX0_reset_82 : decode cX0_reset 82 = .ok (.iconst 0, 1) := by decide +kernel
theorem dX0_reset_83 : decode cX0_reset 83 = .ok (.putfield 56, 3) := by decide +kernel
theorem dX0_reset_86 : decode cX0_reset 86 = .ok (.return_, 1) := by decide +kernel
theorem dX0_copyFrom_0 : decode cX0_copyFrom 0 = .ok (.aload_n 0, 1) := by decide +kernel
theorem dX0_copyFrom_1 : decode cX0_copyFrom 1 = .ok (.aload_n 1, 1) := by decide +kernel
theorem dX0_copyFrom_2 : decode cX0_copyFrom 2 = .ok (.getfield 28, 3) := by decide +kernel
theorem dX0_copyFrom_5 : decode cX0_copyFrom 5 = .ok (.putfield 28, 3) := by decide +kernel
theorem dX0_copyFrom_8 : decode cX0_copyFrom 8 = .ok (.aload_n 0, 1) := by decide +kernel
theorem dX0_copyFrom_9 : decode cX0_copyFrom 9 = .ok (.aload_n 1, 1) := by decide +kernel
theorem dX0_copyFrom_10 : decode cX0_copyFrom 10 = .ok (.getfield 31, 3) := by decide +kernel
theorem dX0_copyFrom_13 : decode cX0_copyFrom 13 = .ok (.putfield 31, 3) := by decide +kernel
theorem dX0_copyFrom_16 : decode cX0_copyFrom 16 = .ok (.aload_n 0, 1) := by decide +kernel
theorem dX0_copyFrom_17 : decode cX0_copyFrom 17 = .ok (.aload_n 1, 1) := by decide +kernel
theorem dX0_copyFrom_18 : decode cX0_copyFrom 18 = .ok (.getfield 34, 3) := by decide +kernel
theorem dX0_copyFrom_21 : decode cX0_copyFrom 21 = .ok (.putfield 34, 3) := by decide +kernel
theorem dX0_copyFrom_24 : decode cX0_copyFrom 24 = .ok (.aload_n 0, 1) := by decide +kernel
theorem dX0_copyFrom_25 : decode cX0_copyFrom 25 = .ok (.aload_n 1, 1) := by decide +kernel
theorem dX0_copyFrom_26 : decode cX0_copyFrom 26 = .ok (.getfield 37, 3) := by decide +kernel
theorem dX0_copyFrom_29 : decode cX0_copyFrom 29 = .ok (.putfield 37, 3) := by decide +kernel
theorem dX0_copyFrom_32 : decode cX0_copyFrom 32 = .ok (.aload_n 0, 1) := by decide +kernel
theorem dX0_copyFrom_33 : decode cX0_copyFrom 33 = .ok (.aload_n 1, 1) := by decide +kernel
theorem dX0_copyFrom_34 : decode cX0_copyFrom 34 = .ok (.getfield 40, 3) := by decide +kernel
theorem dX0_copyFrom_37 : decode cX0_copyFrom 37 = .ok (.putfield 40, 3) := by decide +kernel
theorem dX0_copyFrom_40 : decode cX0_copyFrom 40 = .ok (.aload_n 0, 1) := by decide +kernel
theorem dX0_copyFrom_41 : decode cX0_copyFrom 41 = .ok (.aload_n 1, 1) := by decide +kernel
theorem dX0_copyFrom_42 : decode cX0_copyFrom 42 = .ok (.getfield 43, 3) := by decide +kernel
theorem dX0_copyFrom_45 : decode cX0_copyFrom 45 = .ok (.putfield 43, 3) := by decide +kernel
theorem dX0_copyFrom_48 : decode cX0_copyFrom 48 = .ok (.aload_n 1, 1) := by decide +kernel
theorem dX0_copyFrom_49 : decode cX0_copyFrom 49 = .ok (.getfield 9, 3) := by decide +kernel
theorem dX0_copyFrom_52 : decode cX0_copyFrom 52 = .ok (.iconst 0, 1) := by decide +kernel
theorem dX0_copyFrom_53 : decode cX0_copyFrom 53 = .ok (.aload_n 0, 1) := by decide +kernel
theorem dX0_copyFrom_54 : decode cX0_copyFrom 54 = .ok (.getfield 9, 3) := by decide +kernel
theorem dX0_copyFrom_57 : decode cX0_copyFrom 57 = .ok (.iconst 0, 1) := by decide +kernel
theorem dX0_copyFrom_58 : decode cX0_copyFrom 58 = .ok (.iconst 4, 1) := by decide +kernel
theorem dX0_copyFrom_59 : decode cX0_copyFrom 59 = .ok (.invokestatic 59, 3) := by decide +kernel
theorem dX0_copyFrom_62 : decode cX0_copyFrom 62 = .ok (.aload_n 0, 1) := by decide +kernel
theorem dX0_copyFrom_63 : decode cX0_copyFrom 63 = .ok (.aload_n 1, 1) := by decide +kernel
theorem dX0_copyFrom_64 : decode cX0_copyFrom 64 = .ok (.getfield 46, 3) := by decide +kernel
theorem dX0_copyFrom_67 : decode cX0_copyFrom 67 = .ok (.putfield 46, 3) := by decide +kernel
theorem dX0_copyFrom_70 : decode cX0_copyFrom 70 = .ok (.aload_n 0, 1) := by decide +kernel
theorem dX0_copyFrom_71 : decode cX0_copyFrom 71 = .ok (.aload_n 1, 1) := by decide +kernel
theorem dX0_copyFrom_72 : decode cX0_copyFrom 72 = .ok (.getfield 15, 3) := by decide +kernel
theorem dX0_copyFrom_75 : decode cX0_copyFrom 75 = .ok (.putfield 15, 3) := by decide +kernel
theorem dX0_copyFrom_78 : decode cX0_copyFrom 78 = .ok (.aload_n 0, 1) := by decide +kernel
theorem dX0_copyFrom_79 : decode cX0_copyFrom 79 = .ok (.aload_n 1, 1) := by decide +kernel
theorem dX0_copyFrom_80 : decode cX0_copyFrom 80 = .ok (.getfield 19, 3) := by decide +kernel
theorem dX0_copyFrom_83 : decode cX0_copyFrom 83 = .ok (.putfield 19, 3) := by decide +kernel
theorem dX0_copyFrom_86 : decode cX0_copyFrom 86 = .ok (.aload_n 0, 1) := by decide +kernel
theorem dX0_copyFrom_87 : decode cX0_copyFrom 87 = .ok (.aload_n 1, 1) := by decide +kernel
theorem dX0_copyFrom_88 : decode cX0_copyFrom 88 = .ok (.getfield 22, 3) := by decide +kernel
theorem dX0_copyFrom_91 : decode cX0_copyFrom 91 = .ok (.putfield 22, 3) := by decide +kernel
theorem dX0_copyFrom_94 : decode cX0_copyFrom 94 = .ok (.aload_n 0, 1) := by decide +kernel
theorem dX0_copyFrom_95 : decode cX0_copyFrom 95 = .ok (.aload_n 1, 1) := by decide +kernel
theorem dX0_copyFrom_96 : decode cX0_copyFrom 96 = .ok (.getfield 25, 3) := by decide +kernel
theorem dX0_copyFrom_99 : decode cX0_copyFrom 99 = .ok (.putfield 25, 3) := by decide +kernel
theorem dX0_copyFrom_102 : decode cX0_copyFrom 102 = .ok (.aload_n 0, 1) := by decide +kernel
theorem dX0_copyFrom_103 : decode cX0_copyFrom 103 = .ok (.aload_n 1, 1) := by decide +kernel
theorem dX0_copyFrom_104 : decode cX0_copyFrom 104 = .ok (.getfield 53, 3) := by decide +kernel
theorem dX0_copyFrom_107 : decode cX0_copyFrom 107 = .ok (.putfield 53, 3) := by decide +kernel
theorem dX0_copyFrom_110 : decode cX0_copyFrom 110 = .ok (.aload_n 0, 1) := by decide +kernel
theorem dX0_copyFrom_111 : decode cX0_copyFrom 111 = .ok (.aload_n 1, 1) := by decide +kernel
theorem dX0_copyFrom_112 : decode cX0_copyFrom 112 = .ok (.getfield 56, 3) := by decide +kernel
theorem dX0_copyFrom_115 : decode cX0_copyFrom 115 = .ok (.putfield 56, 3) := by decide +kernel
theorem dX0_copyFrom_118 : decode cX0_copyFrom 118 = .ok (.return_, 1) := by decide +kernel
theorem dX0_hasFallen_0 : decode cX0_hasFallen 0 = .ok (.aload_n 0, 1) := by decide +kernel
theorem dX0_hasFallen_1 : decode cX0_hasFallen 1 = .ok (.getfield 34, 3) := by decide +kernel
theorem dX0_hasFallen_4 : decode cX0_hasFallen 4 = .ok (.ifCond .gt 7, 3) := by decide +kernel
theorem dX0_hasFallen_7 : decode cX0_hasFallen 7 = .ok (.iconst 1, 1) := by decide +kernel
theorem dX0_hasFallen_8 : decode cX0_hasFallen 8 = .ok (.goto 4, 3) := by decide +kernel
theorem dX0_hasFallen_11 : decode cX0_hasFallen 11 = .ok (.iconst 0, 1) := by decide +kernel
theorem dX0_hasFallen_12 : decode cX0_hasFallen 12 = .ok (.ireturn, 1) := by decide +kernel
theorem dX0_hasReadied_0 : decode cX0_hasReadied 0 = .ok (.aload_n 0, 1) := by decide +kernel
theorem dX0_hasReadied_1 : decode cX0_hasReadied 1 = .ok (.getfield 15, 3) := by decide +kernel
theorem dX0_hasReadied_4 : decode cX0_hasReadied 4 = .ok (.iconst (-1), 1) := by decide +kernel
theorem dX0_hasReadied_5 : decode cX0_hasReadied 5 = .ok (.if_icmp .eq 7, 3) := by decide +kernel
theorem dX0_hasReadied_8 : decode cX0_hasReadied 8 = .ok (.iconst 1, 1) := by decide +kernel
theorem dX0_hasReadied_9 : decode cX0_hasReadied 9 = .ok (.goto 4, 3) := by decide +kernel
theorem dX0_hasReadied_12 : decode cX0_hasReadied 12 = .ok (.iconst 0, 1) := by decide +kernel
theorem dX0_hasReadied_13 : decode cX0_hasReadied 13 = .ok (.ireturn, 1) := by decide +kernel
theorem dX0_roundsOf_0 : decode cX0_roundsOf 0 = .ok (.iload_n 1, 1) := by decide +kernel
theorem dX0_roundsOf_1 : decode cX0_roundsOf 1 = .ok (.ifCond .lt 21, 3) := by decide +kernel
theorem dX0_roundsOf_4 : decode cX0_roundsOf 4 = .ok (.iload_n 1, 1) := by decide +kernel
theorem dX0_roundsOf_5 : decode cX0_roundsOf 5 = .ok (.aload_n 0, 1) := by decide +kernel
theorem dX0_roundsOf_6 : decode cX0_roundsOf 6 = .ok (.getfield 9, 3) := by decide +kernel
theorem dX0_roundsOf_9 : decode cX0_roundsOf 9 = .ok (.arraylength, 1) := by decide +kernel
theorem dX0_roundsOf_10 : decode cX0_roundsOf 10 = .ok (.if_icmp .ge 12, 3) := by decide +kernel
theorem dX0_roundsOf_13 : decode cX0_roundsOf 13 = .ok (.aload_n 0, 1) := by decide +kernel
theorem dX0_roundsOf_14 : decode cX0_roundsOf 14 = .ok (.getfield 9, 3) := by decide +kernel
theorem dX0_roundsOf_17 : decode cX0_roundsOf 17 = .ok (.iload_n 1, 1) := by decide +kernel
theorem dX0_roundsOf_18 : decode cX0_roundsOf 18 = .ok (.iaload, 1) := by decide +kernel
theorem dX0_roundsOf_19 : decode cX0_roundsOf 19 = .ok (.goto 4, 3) := by decide +kernel
theorem dX0_roundsOf_22 : decode cX0_roundsOf 22 = .ok (.iconst 0, 1) := by decide +kernel
theorem dX0_roundsOf_23 : decode cX0_roundsOf 23 = .ok (.ireturn, 1) := by decide +kernel
theorem dX0_setRounds_0 : decode cX0_setRounds 0 = .ok (.iload_n 1, 1) := by decide +kernel
theorem dX0_setRounds_1 : decode cX0_setRounds 1 = .ok (.ifCond .lt 19, 3) := by decide +kernel
theorem dX0_setRounds_4 : decode cX0_setRounds 4 = .ok (.iload_n 1, 1) := by decide +kernel
theorem dX0_setRounds_5 : decode cX0_setRounds 5 = .ok (.aload_n 0, 1) := by decide +kernel
theorem dX0_setRounds_6 : decode cX0_setRounds 6 = .ok (.getfield 9, 3) := by decide +kernel
theorem dX0_setRounds_9 : decode cX0_setRounds 9 = .ok (.arraylength, 1) := by decide +kernel
theorem dX0_setRounds_10 : decode cX0_setRounds 10 = .ok (.if_icmp .ge 10, 3) := by decide +kernel
theorem dX0_setRounds_13 : decode cX0_setRounds 13 = .ok (.aload_n 0, 1) := by decide +kernel
theorem dX0_setRounds_14 : decode cX0_setRounds 14 = .ok (.getfield 9, 3) := by decide +kernel
theorem dX0_setRounds_17 : decode cX0_setRounds 17 = .ok (.iload_n 1, 1) := by decide +kernel
theorem dX0_setRounds_18 : decode cX0_setRounds 18 = .ok (.iload_n 2, 1) := by decide +kernel
theorem dX0_setRounds_19 : decode cX0_setRounds 19 = .ok (.iastore, 1) := by decide +kernel
theorem dX0_setRounds_20 : decode cX0_setRounds 20 = .ok (.return_, 1) := by decide +kernel
theorem dX0_lengthen_0 : decode cX0_lengthen 0 = .ok (.aload_n 0, 1) := by decide +kernel
theorem dX0_lengthen_1 : decode cX0_lengthen 1 = .ok (.iload_n 1, 1) := by decide +kernel
theorem dX0_lengthen_2 : decode cX0_lengthen 2 = .ok (.aload_n 0, 1) := by decide +kernel
theorem dX0_lengthen_3 : decode cX0_lengthen 3 = .ok (.iload_n 1, 1) := by decide +kernel
theorem dX0_lengthen_4 : decode cX0_lengthen 4 = .ok (.invokevirtual 65, 3) := by decide +kernel
theorem dX0_lengthen_7 : decode cX0_lengthen 7 = .ok (.iload_n 2, 1) := by decide +kernel
theorem dX0_lengthen_8 : decode cX0_lengthen 8 = .ok (.invokestatic 69, 3) := by decide +kernel
theorem dX0_lengthen_11 : decode cX0_lengthen 11 = .ok (.invokevirtual 75, 3) := by decide +kernel
theorem dX0_lengthen_14 : decode cX0_lengthen 14 = .ok (.aload_n 0, 1) := by decide +kernel
theorem dX0_lengthen_15 : decode cX0_lengthen 15 = .ok (.iload_n 1, 1) := by decide +kernel
theorem dX0_lengthen_16 : decode cX0_lengthen 16 = .ok (.invokevirtual 65, 3) := by decide +kernel
theorem dX0_lengthen_19 : decode cX0_lengthen 19 = .ok (.ireturn, 1) := by decide +kernel
theorem dX0_passRound_0 : decode cX0_passRound 0 = .ok (.iconst 0, 1) := by decide +kernel
theorem dX0_passRound_1 : decode cX0_passRound 1 = .ok (.istore_n 1, 1) := by decide +kernel
theorem dX0_passRound_2 : decode cX0_passRound 2 = .ok (.iload_n 1, 1) := by decide +kernel
theorem dX0_passRound_3 : decode cX0_passRound 3 = .ok (.aload_n 0, 1) := by decide +kernel
theorem dX0_passRound_4 : decode cX0_passRound 4 = .ok (.getfield 9, 3) := by decide +kernel
theorem dX0_passRound_7 : decode cX0_passRound 7 = .ok (.arraylength, 1) := by decide +kernel
theorem dX0_passRound_8 : decode cX0_passRound 8 = .ok (.if_icmp .ge 28, 3) := by decide +kernel
theorem dX0_passRound_11 : decode cX0_passRound 11 = .ok (.aload_n 0, 1) := by decide +kernel
theorem dX0_passRound_12 : decode cX0_passRound 12 = .ok (.getfield 9, 3) := by decide +kernel
theorem dX0_passRound_15 : decode cX0_passRound 15 = .ok (.iload_n 1, 1) := by decide +kernel
theorem dX0_passRound_16 : decode cX0_passRound 16 = .ok (.iaload, 1) := by decide +kernel
theorem dX0_passRound_17 : decode cX0_passRound 17 = .ok (.ifCond .le 13, 3) := by decide +kernel
theorem dX0_passRound_20 : decode cX0_passRound 20 = .ok (.aload_n 0, 1) := by decide +kernel
theorem dX0_passRound_21 : decode cX0_passRound 21 = .ok (.getfield 9, 3) := by decide +kernel
theorem dX0_passRound_24 : decode cX0_passRound 24 = .ok (.iload_n 1, 1) := by decide +kernel
theorem dX0_passRound_25 : decode cX0_passRound 25 = .ok (.dup2, 1) := by decide +kernel
theorem dX0_passRound_26 : decode cX0_passRound 26 = .ok (.iaload, 1) := by decide +kernel
theorem dX0_passRound_27 : decode cX0_passRound 27 = .ok (.iconst 1, 1) := by decide +kernel
theorem dX0_passRound_28 : decode cX0_passRound 28 = .ok (.isub, 1) := by decide +kernel
theorem dX0_passRound_29 : decode cX0_passRound 29 = .ok (.iastore, 1) := by decide +kernel
theorem dX0_passRound_30 : decode cX0_passRound 30 = .ok (.iinc 1 1, 3) := by decide +kernel
theorem dX0_passRound_33 : decode cX0_passRound 33 = .ok (.goto (-31), 3) := by decide +kernel
theorem dX0_passRound_36 : decode cX0_passRound 36 = .ok (.return_, 1) := by decide +kernel
theorem dX0_forgetReadied_0 : decode cX0_forgetReadied 0 = .ok (.aload_n 0, 1) := by decide +kernel
theorem dX0_forgetReadied_1 : decode cX0_forgetReadied 1 = .ok (.iconst (-1), 1) := by decide +kernel
theorem dX0_forgetReadied_2 : decode cX0_forgetReadied 2 = .ok (.putfield 15, 3) := by decide +kernel
theorem dX0_forgetReadied_5 : decode cX0_forgetReadied 5 = .ok (.aload_n 0, 1) := by decide +kernel
theorem dX0_forgetReadied_6 : decode cX0_forgetReadied 6 = .ok (.iconst (-1), 1) := by decide +kernel
theorem dX0_forgetReadied_7 : decode cX0_forgetReadied 7 = .ok (.putfield 19, 3) := by decide +kernel
theorem dX0_forgetReadied_10 : decode cX0_forgetReadied 10 = .ok (.aload_n 0, 1) := by decide +kernel
theorem dX0_forgetReadied_11 : decode cX0_forgetReadied 11 = .ok (.iconst (-1), 1) := by decide +kernel
theorem dX0_forgetReadied_12 : decode cX0_forgetReadied 12 = .ok (.putfield 22, 3) := by decide +kernel
theorem dX0_forgetReadied_15 : decode cX0_forgetReadied 15 = .ok (.aload_n 0, 1) := by decide +kernel
theorem dX0_forgetReadied_16 : decode cX0_forgetReadied 16 = .ok (.iconst (-1), 1) := by decide +kernel
theorem dX0_forgetReadied_17 : decode cX0_forgetReadied 17 = .ok (.putfield 25, 3) := by decide +kernel
theorem dX0_forgetReadied_20 : decode cX0_forgetReadied 20 = .ok (.return_, 1) := by decide +kernel
theorem dX0_ofReadied_0 : decode cX0_ofReadied 0 = .ok (.iload_n 1, 1) := by decide +kernel
theorem dX0_ofReadied_1 : decode cX0_ofReadied 1 = .ok (.tableswitch 42 0 2 #[27, 32, 37], 27) := by decide +kernel
theorem dX0_ofReadied_28 : decode cX0_ofReadied 28 = .ok (.aload_n 0, 1) := by decide +kernel
theorem dX0_ofReadied_29 : decode cX0_ofReadied 29 = .ok (.getfield 15, 3) := by decide +kernel
theorem dX0_ofReadied_32 : decode cX0_ofReadied 32 = .ok (.ireturn, 1) := by decide +kernel
theorem dX0_ofReadied_33 : decode cX0_ofReadied 33 = .ok (.aload_n 0, 1) := by decide +kernel
theorem dX0_ofReadied_34 : decode cX0_ofReadied 34 = .ok (.getfield 19, 3) := by decide +kernel
theorem dX0_ofReadied_37 : decode cX0_ofReadied 37 = .ok (.ireturn, 1) := by decide +kernel
theorem dX0_ofReadied_38 : decode cX0_ofReadied 38 = .ok (.aload_n 0, 1) := by decide +kernel
theorem dX0_ofReadied_39 : decode cX0_ofReadied 39 = .ok (.getfield 22, 3) := by decide +kernel
theorem dX0_ofReadied_42 : decode cX0_ofReadied 42 = .ok (.ireturn, 1) := by decide +kernel
theorem dX0_ofReadied_43 : decode cX0_ofReadied 43 = .ok (.aload_n 0, 1) := by decide +kernel
theorem dX0_ofReadied_44 : decode cX0_ofReadied 44 = .ok (.getfield 25, 3) := by decide +kernel
theorem dX0_ofReadied_47 : decode cX0_ofReadied 47 = .ok (.ireturn, 1) := by decide +kernel
theorem dX0_lossAt_0 : decode cX0_lossAt 0 = .ok (.aload_n 0, 1) := by decide +kernel
theorem dX0_lossAt_1 : decode cX0_lossAt 1 = .ok (.iconst 2, 1) := by decide +kernel
theorem dX0_lossAt_2 : decode cX0_lossAt 2 = .ok (.invokevirtual 65, 3) := by decide +kernel
theorem dX0_lossAt_5 : decode cX0_lossAt 5 = .ok (.ifCond .le 12, 3) := by decide +kernel
theorem dX0_lossAt_8 : decode cX0_lossAt 8 = .ok (.aload_n 0, 1) := by decide +kernel
theorem dX0_lossAt_9 : decode cX0_lossAt 9 = .ok (.getfield 40, 3) := by decide +kernel
theorem dX0_lossAt_12 : decode cX0_lossAt 12 = .ok (.iconst 3, 1) := by decide +kernel
theorem dX0_lossAt_13 : decode cX0_lossAt 13 = .ok (.iadd, 1) := by decide +kernel
theorem dX0_lossAt_14 : decode cX0_lossAt 14 = .ok (.goto 7, 3) := by decide +kernel
theorem dX0_lossAt_17 : decode cX0_lossAt 17 = .ok (.aload_n 0, 1) := by decide +kernel
theorem dX0_lossAt_18 : decode cX0_lossAt 18 = .ok (.getfield 40, 3) := by decide +kernel
theorem dX0_lossAt_21 : decode cX0_lossAt 21 = .ok (.istore_n 2, 1) := by decide +kernel
theorem dX0_lossAt_22 : decode cX0_lossAt 22 = .ok (.aload_n 0, 1) := by decide +kernel
theorem dX0_lossAt_23 : decode cX0_lossAt 23 = .ok (.iconst 1, 1) := by decide +kernel
theorem dX0_lossAt_24 : decode cX0_lossAt 24 = .ok (.invokevirtual 65, 3) := by decide +kernel
theorem dX0_lossAt_27 : decode cX0_lossAt 27 = .ok (.ifCond .le 7, 3) := by decide +kernel
theorem dX0_lossAt_30 : decode cX0_lossAt 30 = .ok (.iload_n 2, 1) := by decide +kernel
theorem dX0_lossAt_31 : decode cX0_lossAt 31 = .ok (.iconst 2, 1) := by decide +kernel
theorem dX0_lossAt_32 : decode cX0_lossAt 32 = .ok (.idiv, 1) := by decide +kernel
theorem dX0_lossAt_33 : decode cX0_lossAt 33 = .ok (.istore_n 2, 1) := by decide +kernel
theorem dX0_lossAt_34 : decode cX0_lossAt 34 = .ok (.iload_n 2, 1) := by decide +kernel
theorem dX0_lossAt_35 : decode cX0_lossAt 35 = .ok (.aload_n 1, 1) := by decide +kernel
theorem dX0_lossAt_36 : decode cX0_lossAt 36 = .ok (.getfield 34, 3) := by decide +kernel
theorem dX0_lossAt_39 : decode cX0_lossAt 39 = .ok (.invokestatic 79, 3) := by decide +kernel
theorem dX0_lossAt_42 : decode cX0_lossAt 42 = .ok (.ireturn, 1) := by decide +kernel
theorem dX0_recover_0 : decode cX0_recover 0 = .ok (.aload_n 0, 1) := by decide +kernel
theorem dX0_recover_1 : decode cX0_recover 1 = .ok (.aload_n 0, 1) := by decide +kernel
theorem dX0_recover_2 : decode cX0_recover 2 = .ok (.getfield 34, 3) := by decide +kernel
theorem dX0_recover_5 : decode cX0_recover 5 = .ok (.iconst 4, 1) := by decide +kernel
theorem dX0_recover_6 : decode cX0_recover 6 = .ok (.iadd, 1) := by decide +kernel
theorem dX0_recover_7 : decode cX0_recover 7 = .ok (.aload_n 0, 1) := by decide +kernel
theorem dX0_recover_8 : decode cX0_recover 8 = .ok (.getfield 37, 3) := by decide +kernel
theorem dX0_recover_11 : decode cX0_recover 11 = .ok (.invokestatic 79, 3) := by decide +kernel
theorem dX0_recover_14 : decode cX0_recover 14 = .ok (.putfield 34, 3) := by decide +kernel
theorem dX0_recover_17 : decode cX0_recover 17 = .ok (.aload_n 0, 1) := by decide +kernel
theorem dX0_recover_18 : decode cX0_recover 18 = .ok (.iconst 3, 1) := by decide +kernel
theorem dX0_recover_19 : decode cX0_recover 19 = .ok (.iconst 0, 1) := by decide +kernel
theorem dX0_recover_20 : decode cX0_recover 20 = .ok (.invokevirtual 75, 3) := by decide +kernel
theorem dX0_recover_23 : decode cX0_recover 23 = .ok (.return_, 1) := by decide +kernel
theorem dX0_bleed_0 : decode cX0_bleed 0 = .ok (.aload_n 0, 1) := by decide +kernel
theorem dX0_bleed_1 : decode cX0_bleed 1 = .ok (.iconst 3, 1) := by decide +kernel
theorem dX0_bleed_2 : decode cX0_bleed 2 = .ok (.invokevirtual 65, 3) := by decide +kernel
theorem dX0_bleed_5 : decode cX0_bleed 5 = .ok (.ifCond .le 17, 3) := by decide +kernel
theorem dX0_bleed_8 : decode cX0_bleed 8 = .ok (.aload_n 0, 1) := by decide +kernel
theorem dX0_bleed_9 : decode cX0_bleed 9 = .ok (.aload_n 0, 1) := by decide +kernel
theorem dX0_bleed_10 : decode cX0_bleed 10 = .ok (.getfield 34, 3) := by decide +kernel
theorem dX0_bleed_13 : decode cX0_bleed 13 = .ok (.iconst 2, 1) := by decide +kernel
theorem dX0_bleed_14 : decode cX0_bleed 14 = .ok (.isub, 1) := by decide +kernel
theorem dX0_bleed_15 : decode cX0_bleed 15 = .ok (.iconst 0, 1) := by decide +kernel
theorem dX0_bleed_16 : decode cX0_bleed 16 = .ok (.invokestatic 69, 3) := by decide +kernel
theorem dX0_bleed_19 : decode cX0_bleed 19 = .ok (.putfield 34, 3) := by decide +kernel
theorem dX0_bleed_22 : decode cX0_bleed 22 = .ok (.return_, 1) := by decide +kernel
theorem dX0_status_0 : decode cX0_status 0 = .ok (.aload_n 0, 1) := by decide +kernel
theorem dX0_status_1 : decode cX0_status 1 = .ok (.invokevirtual 82, 3) := by decide +kernel
theorem dX0_status_4 : decode cX0_status 4 = .ok (.ifCond .eq 5, 3) := by decide +kernel
theorem dX0_status_7 : decode cX0_status 7 = .ok (.iconst 3, 1) := by decide +kernel
theorem dX0_status_8 : decode cX0_status 8 = .ok (.ireturn, 1) := by decide +kernel
theorem dX0_status_9 : decode cX0_status 9 = .ok (.aload_n 0, 1) := by decide +kernel
theorem dX0_status_10 : decode cX0_status 10 = .ok (.getfield 46, 3) := by decide +kernel
theorem dX0_status_13 : decode cX0_status 13 = .ok (.ifCond .eq 5, 3) := by decide +kernel
theorem dX0_status_16 : decode cX0_status 16 = .ok (.iconst 1, 1) := by decide +kernel
theorem dX0_status_17 : decode cX0_status 17 = .ok (.ireturn, 1) := by decide +kernel
theorem dX0_status_18 : decode cX0_status 18 = .ok (.aload_n 0, 1) := by decide +kernel
theorem dX0_status_19 : decode cX0_status 19 = .ok (.invokevirtual 86, 3) := by decide +kernel
theorem dX0_status_22 : decode cX0_status 22 = .ok (.ifCond .eq 7, 3) := by decide +kernel
theorem dX0_status_25 : decode cX0_status 25 = .ok (.iconst 2, 1) := by decide +kernel
theorem dX0_status_26 : decode cX0_status 26 = .ok (.goto 4, 3) := by decide +kernel
theorem dX0_status_29 : decode cX0_status 29 = .ok (.iconst 0, 1) := by decide +kernel
theorem dX0_status_30 : decode cX0_status 30 = .ok (.ireturn, 1) := by decide +kernel
theorem dX1_init_0 : decode cX1_init 0 = .ok (.aload_n 0, 1) := by decide +kernel
theorem dX1_init_1 : decode cX1_init 1 = .ok (.invokespecial 3, 3) := by decide +kernel
theorem dX1_init_4 : decode cX1_init 4 = .ok (.aload_n 0, 1) := by decide +kernel
theorem dX1_init_5 : decode cX1_init 5 = .ok (.bipush 60, 2) := by decide +kernel
theorem dX1_init_7 : decode cX1_init 7 = .ok (.newarray .int, 2) := by decide +kernel
theorem dX1_init_9 : decode cX1_init 9 = .ok (.putfield 9, 3) := by decide +kernel
theorem dX1_init_12 : decode cX1_init 12 = .ok (.aload_n 0, 1) := by decide +kernel
theorem dX1_init_13 : decode cX1_init 13 = .ok (.iconst 0, 1) := by decide +kernel
theorem dX1_init_14 : decode cX1_init 14 = .ok (.putfield 15, 3) := by decide +kernel
theorem dX1_init_17 : decode cX1_init 17 = .ok (.return_, 1) := by decide +kernel
theorem dX1_add_0 : decode cX1_add 0 = .ok (.aload_n 0, 1) := by decide +kernel
theorem dX1_add_1 : decode cX1_add 1 = .ok (.getfield 15, 3) := by decide +kernel
theorem dX1_add_4 : decode cX1_add 4 = .ok (.ifCond .lt 35, 3) := by decide +kernel
theorem dX1_add_7 : decode cX1_add 7 = .ok (.aload_n 0, 1) := by decide +kernel
theorem dX1_add_8 : decode cX1_add 8 = .ok (.getfield 15, 3) := by decide +kernel
theorem dX1_add_11 : decode cX1_add 11 = .ok (.aload_n 0, 1) := by decide +kernel
theorem dX1_add_12 : decode cX1_add 12 = .ok (.getfield 9, 3) := by decide +kernel
theorem dX1_add_15 : decode cX1_add 15 = .ok (.arraylength, 1) := by decide +kernel
theorem dX1_add_16 : decode cX1_add 16 = .ok (.if_icmp .ge 23, 3) := by decide +kernel
theorem dX1_add_19 : decode cX1_add 19 = .ok (.aload_n 0, 1) := by decide +kernel
theorem dX1_add_20 : decode cX1_add 20 = .ok (.getfield 9, 3) := by decide +kernel
theorem dX1_add_23 : decode cX1_add 23 = .ok (.aload_n 0, 1) := by decide +kernel
theorem dX1_add_24 : decode cX1_add 24 = .ok (.getfield 15, 3) := by decide +kernel
theorem dX1_add_27 : decode cX1_add 27 = .ok (.iload_n 1, 1) := by decide +kernel
theorem dX1_add_28 : decode cX1_add 28 = .ok (.iastore, 1) := by decide +kernel
theorem dX1_add_29 : decode cX1_add 29 = .ok (.aload_n 0, 1) := by decide +kernel
theorem dX1_add_30 : decode cX1_add 30 = .ok (.dup, 1) := by decide +kernel
theorem dX1_add_31 : decode cX1_add 31 = .ok (.getfield 15, 3) := by decide +kernel
theorem dX1_add_34 : decode cX1_add 34 = .ok (.iconst 1, 1) := by decide +kernel
theorem dX1_add_35 : decode cX1_add 35 = .ok (.iadd, 1) := by decide +kernel
theorem dX1_add_36 : decode cX1_add 36 = .ok (.putfield 15, 3) := by decide +kernel
theorem dX1_add_39 : decode cX1_add 39 = .ok (.return_, 1) := by decide +kernel
theorem dX1_codeAt_0 : decode cX1_codeAt 0 = .ok (.iload_n 1, 1) := by decide +kernel
theorem dX1_codeAt_1 : decode cX1_codeAt 1 = .ok (.ifCond .lt 29, 3) := by decide +kernel
theorem dX1_codeAt_4 : decode cX1_codeAt 4 = .ok (.iload_n 1, 1) := by decide +kernel
theorem dX1_codeAt_5 : decode cX1_codeAt 5 = .ok (.aload_n 0, 1) := by decide +kernel
theorem dX1_codeAt_6 : decode cX1_codeAt 6 = .ok (.getfield 15, 3) := by decide +kernel
theorem dX1_codeAt_9 : decode cX1_codeAt 9 = .ok (.if_icmp .ge 21, 3) := by decide +kernel
theorem dX1_codeAt_12 : decode cX1_codeAt 12 = .ok (.iload_n 1, 1) := by decide +kernel
theorem dX1_codeAt_13 : decode cX1_codeAt 13 = .ok (.aload_n 0, 1) := by decide +kernel
theorem dX1_codeAt_14 : decode cX1_codeAt 14 = .ok (.getfield 9, 3) := by decide +kernel
theorem dX1_codeAt_17 : decode cX1_codeAt 17 = .ok (.arraylength, 1) := by decide +kernel
theorem dX1_codeAt_18 : decode cX1_codeAt 18 = .ok (.if_icmp .ge 12, 3) := by decide +kernel
theorem dX1_codeAt_21 : decode cX1_codeAt 21 = .ok (.aload_n 0, 1) := by decide +kernel
theorem dX1_codeAt_22 : decode cX1_codeAt 22 = .ok (.getfield 9, 3) := by decide +kernel
theorem dX1_codeAt_25 : decode cX1_codeAt 25 = .ok (.iload_n 1, 1) := by decide +kernel
theorem dX1_codeAt_26 : decode cX1_codeAt 26 = .ok (.iaload, 1) := by decide +kernel
theorem dX1_codeAt_27 : decode cX1_codeAt 27 = .ok (.goto 4, 3) := by decide +kernel
theorem dX1_codeAt_30 : decode cX1_codeAt 30 = .ok (.iconst 0, 1) := by decide +kernel
theorem dX1_codeAt_31 : decode cX1_codeAt 31 = .ok (.ireturn, 1) := by decide +kernel
theorem dX1_digitAt_0 : decode cX1_digitAt 0 = .ok (.aload_n 0, 1) := by decide +kernel
theorem dX1_digitAt_1 : decode cX1_digitAt 1 = .ok (.iload_n 1, 1) := by decide +kernel
theorem dX1_digitAt_2 : decode cX1_digitAt 2 = .ok (.invokevirtual 19, 3) := by decide +kernel
theorem dX1_digitAt_5 : decode cX1_digitAt 5 = .ok (.iconst 0, 1) := by decide +kernel
theorem dX1_digitAt_6 : decode cX1_digitAt 6 = .ok (.bipush 9, 2) := by decide +kernel
theorem dX1_digitAt_8 : decode cX1_digitAt 8 = .ok (.invokestatic 23, 3) := by decide +kernel
theorem dX1_digitAt_11 : decode cX1_digitAt 11 = .ok (.ifCond .eq 14, 3) := by decide +kernel
theorem dX1_digitAt_14 : decode cX1_digitAt 14 = .ok (.aload_n 0, 1) := by decide +kernel
theorem dX1_digitAt_15 : decode cX1_digitAt 15 = .ok (.iload_n 1, 1) := by decide +kernel
theorem dX1_digitAt_16 : decode cX1_digitAt 16 = .ok (.invokevirtual 19, 3) := by decide +kernel
theorem dX1_digitAt_19 : decode cX1_digitAt 19 = .ok (.bipush 48, 2) := by decide +kernel
theorem dX1_digitAt_21 : decode cX1_digitAt 21 = .ok (.isub, 1) := by decide +kernel
theorem dX1_digitAt_22 : decode cX1_digitAt 22 = .ok (.goto 4, 3) := by decide +kernel
theorem dX1_digitAt_25 : decode cX1_digitAt 25 = .ok (.iconst (-1), 1) := by decide +kernel
theorem dX1_digitAt_26 : decode cX1_digitAt 26 = .ok (.ireturn, 1) := by decide +kernel
theorem dX1_isOrderAt_0 : decode cX1_isOrderAt 0 = .ok (.iload_n 1, 1) := by decide +kernel
theorem dX1_isOrderAt_1 : decode cX1_isOrderAt 1 = .ok (.ifCond .eq 15, 3) := by decide +kernel
theorem dX1_isOrderAt_4 : decode cX1_isOrderAt 4 = .ok (.aload_n 0, 1) := by decide +kernel
theorem dX1_isOrderAt_5 : decode cX1_isOrderAt 5 = .ok (.iload_n 1, 1) := by decide +kernel
theorem dX1_isOrderAt_6 : decode cX1_isOrderAt 6 = .ok (.iconst 1, 1) := by decide +kernel
theorem dX1_isOrderAt_7 : decode cX1_isOrderAt 7 = .ok (.isub, 1) := by decide +kernel
theorem dX1_isOrderAt_8 : decode cX1_isOrderAt 8 = .ok (.invokevirtual 19, 3) := by decide +kernel
theorem dX1_isOrderAt_11 : decode cX1_isOrderAt 11 = .ok (.bipush 59, 2) := by decide +kernel
theorem dX1_isOrderAt_13 : decode cX1_isOrderAt 13 = .ok (.if_icmp .ne 7, 3) := by decide +kernel
theorem dX1_isOrderAt_16 : decode cX1_isOrderAt 16 = .ok (.iconst 1, 1) := by decide +kernel
theorem dX1_isOrderAt_17 : decode cX1_isOrderAt 17 = .ok (.goto 4, 3) := by decide +kernel
theorem dX1_isOrderAt_20 : decode cX1_isOrderAt 20 = .ok (.iconst 0, 1) := by decide +kernel
theorem dX1_isOrderAt_21 : decode cX1_isOrderAt 21 = .ok (.ireturn, 1) := by decide +kernel
theorem dX1_firstWrong_0 : decode cX1_firstWrong 0 = .ok (.iconst 0, 1) := by decide +kernel
theorem dX1_firstWrong_1 : decode cX1_firstWrong 1 = .ok (.istore_n 1, 1) := by decide +kernel
theorem dX1_firstWrong_2 : decode cX1_firstWrong 2 = .ok (.iconst 0, 1) := by decide +kernel
theorem dX1_firstWrong_3 : decode cX1_firstWrong 3 = .ok (.istore_n 2, 1) := by decide +kernel
theorem dX1_firstWrong_4 : decode cX1_firstWrong 4 = .ok (.iload_n 2, 1) := by decide +kernel
theorem dX1_firstWrong_5 : decode cX1_firstWrong 5 = .ok (.aload_n 0, 1) := by decide +kernel
theorem dX1_firstWrong_6 : decode cX1_firstWrong 6 = .ok (.getfield 15, 3) := by decide +kernel
theorem dX1_firstWrong_9 : decode cX1_firstWrong 9 = .ok (.if_icmp .ge 27, 3) := by decide +kernel
theorem dX1_firstWrong_12 : decode cX1_firstWrong 12 = .ok (.iload_n 1, 1) := by decide +kernel
theorem dX1_firstWrong_13 : decode cX1_firstWrong 13 = .ok (.aload_n 0, 1) := by decide +kernel
theorem dX1_firstWrong_14 : decode cX1_firstWrong 14 = .ok (.iload_n 2, 1) := by decide +kernel
theorem dX1_firstWrong_15 : decode cX1_firstWrong 15 = .ok (.invokevirtual 19, 3) := by decide +kernel
theorem dX1_firstWrong_18 : decode cX1_firstWrong 18 = .ok (.invokestatic 27, 3) := by decide +kernel
theorem dX1_firstWrong_21 : decode cX1_firstWrong 21 = .ok (.istore_n 1, 1) := by decide +kernel
theorem dX1_firstWrong_22 : decode cX1_firstWrong 22 = .ok (.iload_n 1, 1) := by decide +kernel
theorem dX1_firstWrong_23 : decode cX1_firstWrong 23 = .ok (.bipush 6, 2) := by decide +kernel
theorem dX1_firstWrong_25 : decode cX1_firstWrong 25 = .ok (.if_icmp .ne 5, 3) := by decide +kernel
theorem dX1_firstWrong_28 : decode cX1_firstWrong 28 = .ok (.iload_n 2, 1) := by decide +kernel
theorem dX1_firstWrong_29 : decode cX1_firstWrong 29 = .ok (.ireturn, 1) := by decide +kernel
theorem dX1_firstWrong_30 : decode cX1_firstWrong 30 = .ok (.iinc 2 1, 3) := by decide +kernel
theorem dX1_firstWrong_33 : decode cX1_firstWrong 33 = .ok (.goto (-29), 3) := by decide +kernel
theorem dX1_firstWrong_36 : decode cX1_firstWrong 36 = .ok (.aload_n 0, 1) := by decide +kernel
theorem dX1_firstWrong_37 : decode cX1_firstWrong 37 = .ok (.getfield 15, 3) := by decide +kernel
theorem dX1_firstWrong_40 : decode cX1_firstWrong 40 = .ok (.ireturn, 1) := by decide +kernel
theorem dX1_isComplete_0 : decode cX1_isComplete 0 = .ok (.iconst 0, 1) := by decide +kernel
theorem dX1_isComplete_1 : decode cX1_isComplete 1 = .ok (.istore_n 1, 1) := by decide +kernel
theorem dX1_isComplete_2 : decode cX1_isComplete 2 = .ok (.iconst 0, 1) := by decide +kernel
theorem dX1_isComplete_3 : decode cX1_isComplete 3 = .ok (.istore_n 2, 1) := by decide +kernel
theorem dX1_isComplete_4 : decode cX1_isComplete 4 = .ok (.iload_n 2, 1) := by decide +kernel
theorem dX1_isComplete_5 : decode cX1_isComplete 5 = .ok (.aload_n 0, 1) := by decide +kernel
theorem dX1_isComplete_6 : decode cX1_isComplete 6 = .ok (.getfield 15, 3) := by decide +kernel
theorem dX1_isComplete_9 : decode cX1_isComplete 9 = .ok (.if_icmp .ge 19, 3) := by decide +kernel
theorem dX1_isComplete_12 : decode cX1_isComplete 12 = .ok (.iload_n 1, 1) := by decide +kernel
theorem dX1_isComplete_13 : decode cX1_isComplete 13 = .ok (.aload_n 0, 1) := by decide +kernel
theorem dX1_isComplete_14 : decode cX1_isComplete 14 = .ok (.iload_n 2, 1) := by decide +kernel
theorem dX1_isComplete_15 : decode cX1_isComplete 15 = .ok (.invokevirtual 19, 3) := by decide +kernel
theorem dX1_isComplete_18 : decode cX1_isComplete 18 = .ok (.invokestatic 27, 3) := by decide +kernel
theorem dX1_isComplete_21 : decode cX1_isComplete 21 = .ok (.istore_n 1, 1) := by decide +kernel
theorem dX1_isComplete_22 : decode cX1_isComplete 22 = .ok (.iinc 2 1, 3) := by decide +kernel
theorem dX1_isComplete_25 : decode cX1_isComplete 25 = .ok (.goto (-21), 3) := by decide +kernel
theorem dX1_isComplete_28 : decode cX1_isComplete 28 = .ok (.iload_n 1, 1) := by decide +kernel
theorem dX1_isComplete_29 : decode cX1_isComplete 29 = .ok (.iconst 5, 1) := by decide +kernel
theorem dX1_isComplete_30 : decode cX1_isComplete 30 = .ok (.if_icmp .ne 7, 3) := by decide +kernel
theorem dX1_isComplete_33 : decode cX1_isComplete 33 = .ok (.iconst 1, 1) := by decide +kernel
theorem dX1_isComplete_34 : decode cX1_isComplete 34 = .ok (.goto 4, 3) := by decide +kernel
theorem dX1_isComplete_37 : decode cX1_isComplete 37 = .ok (.iconst 0, 1) := by decide +kernel
theorem dX1_isComplete_38 : decode cX1_isComplete 38 = .ok (.ireturn, 1) := by decide +kernel
theorem dX1_kindOf_0 : decode cX1_kindOf 0 = .ok (.iload_n 0, 1) := by decide +kernel
theorem dX1_kindOf_1 : decode cX1_kindOf 1 = .ok (.lookupswitch 51 #[(99, 49), (104, 47), (109, 45), (115, 43)], 43) := by decide +kernel
theorem dX1_kindOf_44 : decode cX1_kindOf 44 = .ok (.iconst 0, 1) := by decide +kernel
theorem dX1_kindOf_45 : decode cX1_kindOf 45 = .ok (.ireturn, 1) := by decide +kernel
theorem dX1_kindOf_46 : decode cX1_kindOf 46 = .ok (.iconst 1, 1) := by decide +kernel
theorem dX1_kindOf_47 : decode cX1_kindOf 47 = .ok (.ireturn, 1) := by decide +kernel
theorem dX1_kindOf_48 : decode cX1_kindOf 48 = .ok (.iconst 2, 1) := by decide +kernel
theorem dX1_kindOf_49 : decode cX1_kindOf 49 = .ok (.ireturn, 1) := by decide +kernel
theorem dX1_kindOf_50 : decode cX1_kindOf 50 = .ok (.iconst 3, 1) := by decide +kernel
theorem dX1_kindOf_51 : decode cX1_kindOf 51 = .ok (.ireturn, 1) := by decide +kernel
theorem dX1_kindOf_52 : decode cX1_kindOf 52 = .ok (.iconst (-1), 1) := by decide +kernel
theorem dX1_kindOf_53 : decode cX1_kindOf 53 = .ok (.ireturn, 1) := by decide +kernel
theorem dX1_nextBehind_0 : decode cX1_nextBehind 0 = .ok (.iload_n 0, 1) := by decide +kernel
theorem dX1_nextBehind_1 : decode cX1_nextBehind 1 = .ok (.tableswitch 123 0 5 #[39, 44, 61, 78, 94, 110], 39) := by decide +kernel
theorem dX1_nextBehind_40 : decode cX1_nextBehind 40 = .ok (.iload_n 1, 1) := by decide +kernel
theorem dX1_nextBehind_41 : decode cX1_nextBehind 41 = .ok (.invokestatic 31, 3) := by decide +kernel
theorem dX1_nextBehind_44 : decode cX1_nextBehind 44 = .ok (.ireturn, 1) := by decide +kernel
theorem dX1_nextBehind_45 : decode cX1_nextBehind 45 = .ok (.iload_n 1, 1) := by decide +kernel
theorem dX1_nextBehind_46 : decode cX1_nextBehind 46 = .ok (.iconst 0, 1) := by decide +kernel
theorem dX1_nextBehind_47 : decode cX1_nextBehind 47 = .ok (.bipush 9, 2) := by decide +kernel
theorem dX1_nextBehind_49 : decode cX1_nextBehind 49 = .ok (.invokestatic 23, 3) := by decide +kernel
theorem dX1_nextBehind_52 : decode cX1_nextBehind 52 = .ok (.ifCond .eq 7, 3) := by decide +kernel
theorem dX1_nextBehind_55 : decode cX1_nextBehind 55 = .ok (.iconst 5, 1) := by decide +kernel
theorem dX1_nextBehind_56 : decode cX1_nextBehind 56 = .ok (.goto 5, 3) := by decide +kernel
theorem dX1_nextBehind_59 : decode cX1_nextBehind 59 = .ok (.bipush 6, 2) := by decide +kernel
theorem dX1_nextBehind_61 : decode cX1_nextBehind 61 = .ok (.ireturn, 1) := by decide +kernel
theorem dX1_nextBehind_62 : decode cX1_nextBehind 62 = .ok (.iload_n 1, 1) := by decide +kernel
theorem dX1_nextBehind_63 : decode cX1_nextBehind 63 = .ok (.iconst 0, 1) := by decide +kernel
theorem dX1_nextBehind_64 : decode cX1_nextBehind 64 = .ok (.bipush 9, 2) := by decide +kernel
theorem dX1_nextBehind_66 : decode cX1_nextBehind 66 = .ok (.invokestatic 23, 3) := by decide +kernel
theorem dX1_nextBehind_69 : decode cX1_nextBehind 69 = .ok (.ifCond .eq 7, 3) := by decide +kernel
theorem dX1_nextBehind_72 : decode cX1_nextBehind 72 = .ok (.iconst 3, 1) := by decide +kernel
theorem dX1_nextBehind_73 : decode cX1_nextBehind 73 = .ok (.goto 5, 3) := by decide +kernel
theorem dX1_nextBehind_76 : decode cX1_nextBehind 76 = .ok (.bipush 6, 2) := by decide +kernel
theorem dX1_nextBehind_78 : decode cX1_nextBehind 78 = .ok (.ireturn, 1) := by decide +kernel
theorem dX1_nextBehind_79 : decode cX1_nextBehind 79 = .ok (.iload_n 1, 1) := by decide +kernel
theorem dX1_nextBehind_80 : decode cX1_nextBehind 80 = .ok (.iconst 0, 1) := by decide +kernel
theorem dX1_nextBehind_81 : decode cX1_nextBehind 81 = .ok (.iconst 3, 1) := by decide +kernel
theorem dX1_nextBehind_82 : decode cX1_nextBehind 82 = .ok (.invokestatic 23, 3) := by decide +kernel
theorem dX1_nextBehind_85 : decode cX1_nextBehind 85 = .ok (.ifCond .eq 7, 3) := by decide +kernel
theorem dX1_nextBehind_88 : decode cX1_nextBehind 88 = .ok (.iconst 4, 1) := by decide +kernel
theorem dX1_nextBehind_89 : decode cX1_nextBehind 89 = .ok (.goto 5, 3) := by decide +kernel
theorem dX1_nextBehind_92 : decode cX1_nextBehind 92 = .ok (.bipush 6, 2) := by decide +kernel
theorem dX1_nextBehind_94 : decode cX1_nextBehind 94 = .ok (.ireturn, 1) := by decide +kernel
theorem dX1_nextBehind_95 : decode cX1_nextBehind 95 = .ok (.iload_n 1, 1) := by decide +kernel
theorem dX1_nextBehind_96 : decode cX1_nextBehind 96 = .ok (.iconst 1, 1) := by decide +kernel
theorem dX1_nextBehind_97 : decode cX1_nextBehind 97 = .ok (.iconst 5, 1) := by decide +kernel
theorem dX1_nextBehind_98 : decode cX1_nextBehind 98 = .ok (.invokestatic 23, 3) := by decide +kernel
theorem dX1_nextBehind_101 : decode cX1_nextBehind 101 = .ok (.ifCond .eq 7, 3) := by decide +kernel
theorem dX1_nextBehind_104 : decode cX1_nextBehind 104 = .ok (.iconst 5, 1) := by decide +kernel
theorem dX1_nextBehind_105 : decode cX1_nextBehind 105 = .ok (.goto 5, 3) := by decide +kernel
theorem dX1_nextBehind_108 : decode cX1_nextBehind 108 = .ok (.bipush 6, 2) := by decide +kernel
theorem dX1_nextBehind_110 : decode cX1_nextBehind 110 = .ok (.ireturn, 1) := by decide +kernel
theorem dX1_nextBehind_111 : decode cX1_nextBehind 111 = .ok (.iload_n 1, 1) := by decide +kernel
theorem dX1_nextBehind_112 : decode cX1_nextBehind 112 = .ok (.bipush 59, 2) := by decide +kernel
theorem dX1_nextBehind_114 : decode cX1_nextBehind 114 = .ok (.if_icmp .ne 7, 3) := by decide +kernel
theorem dX1_nextBehind_117 : decode cX1_nextBehind 117 = .ok (.iconst 0, 1) := by decide +kernel
theorem dX1_nextBehind_118 : decode cX1_nextBehind 118 = .ok (.goto 5, 3) := by decide +kernel
theorem dX1_nextBehind_121 : decode cX1_nextBehind 121 = .ok (.bipush 6, 2) := by decide +kernel
theorem dX1_nextBehind_123 : decode cX1_nextBehind 123 = .ok (.ireturn, 1) := by decide +kernel
theorem dX1_nextBehind_124 : decode cX1_nextBehind 124 = .ok (.bipush 6, 2) := by decide +kernel
theorem dX1_nextBehind_126 : decode cX1_nextBehind 126 = .ok (.ireturn, 1) := by decide +kernel
theorem dX1_nextBehindLetter_0 : decode cX1_nextBehindLetter 0 = .ok (.iload_n 0, 1) := by decide +kernel
theorem dX1_nextBehindLetter_1 : decode cX1_nextBehindLetter 1 = .ok (.tableswitch 105 99 119 #[101, 105, 103, 105, 105, 99, 99, 105, 105, 105, 99, 105, 105, 105, 105, 105, 99, 105, 105, 105, 103], 99) := by decide +kernel
theorem dX1_nextBehindLetter_100 : decode cX1_nextBehindLetter 100 = .ok (.iconst 1, 1) := by decide +kernel
theorem dX1_nextBehindLetter_101 : decode cX1_nextBehindLetter 101 = .ok (.ireturn, 1) := by decide +kernel
theorem dX1_nextBehindLetter_102 : decode cX1_nextBehindLetter 102 = .ok (.iconst 2, 1) := by decide +kernel
theorem dX1_nextBehindLetter_103 : decode cX1_nextBehindLetter 103 = .ok (.ireturn, 1) := by decide +kernel
theorem dX1_nextBehindLetter_104 : decode cX1_nextBehindLetter 104 = .ok (.iconst 5, 1) := by decide +kernel
theorem dX1_nextBehindLetter_105 : decode cX1_nextBehindLetter 105 = .ok (.ireturn, 1) := by decide +kernel
theorem dX1_nextBehindLetter_106 : decode cX1_nextBehindLetter 106 = .ok (.bipush 6, 2) := by decide +kernel
theorem dX1_nextBehindLetter_108 : decode cX1_nextBehindLetter 108 = .ok (.ireturn, 1) := by decide +kernel
theorem dX1_isDigit_0 : decode cX1_isDigit 0 = .ok (.iload_n 0, 1) := by decide +kernel
theorem dX1_isDigit_1 : decode cX1_isDigit 1 = .ok (.bipush 48, 2) := by decide +kernel
theorem dX1_isDigit_3 : decode cX1_isDigit 3 = .ok (.iload_n 1, 1) := by decide +kernel
theorem dX1_isDigit_4 : decode cX1_isDigit 4 = .ok (.iadd, 1) := by decide +kernel
theorem dX1_isDigit_5 : decode cX1_isDigit 5 = .ok (.if_icmp .lt 15, 3) := by decide +kernel
theorem dX1_isDigit_8 : decode cX1_isDigit 8 = .ok (.iload_n 0, 1) := by decide +kernel
theorem dX1_isDigit_9 : decode cX1_isDigit 9 = .ok (.bipush 48, 2) := by decide +kernel
theorem dX1_isDigit_11 : decode cX1_isDigit 11 = .ok (.iload_n 2, 1) := by decide +kernel
theorem dX1_isDigit_12 : decode cX1_isDigit 12 = .ok (.iadd, 1) := by decide +kernel
theorem dX1_isDigit_13 : decode cX1_isDigit 13 = .ok (.if_icmp .gt 7, 3) := by decide +kernel
theorem dX1_isDigit_16 : decode cX1_isDigit 16 = .ok (.iconst 1, 1) := by decide +kernel
theorem dX1_isDigit_17 : decode cX1_isDigit 17 = .ok (.goto 4, 3) := by decide +kernel
theorem dX1_isDigit_20 : decode cX1_isDigit 20 = .ok (.iconst 0, 1) := by decide +kernel
theorem dX1_isDigit_21 : decode cX1_isDigit 21 = .ok (.ireturn, 1) := by decide +kernel
theorem dX2_init_0 : decode cX2_init 0 = .ok (.aload_n 0, 1) := by decide +kernel
theorem dX2_init_1 : decode cX2_init 1 = .ok (.invokespecial 3, 3) := by decide +kernel
theorem dX2_init_4 : decode cX2_init 4 = .ok (.aload_n 0, 1) := by decide +kernel
theorem dX2_init_5 : decode cX2_init 5 = .ok (.bipush 10, 2) := by decide +kernel
theorem dX2_init_7 : decode cX2_init 7 = .ok (.newarray .int, 2) := by decide +kernel
theorem dX2_init_9 : decode cX2_init 9 = .ok (.putfield 9, 3) := by decide +kernel
theorem dX2_init_12 : decode cX2_init 12 = .ok (.aload_n 0, 1) := by decide +kernel
theorem dX2_init_13 : decode cX2_init 13 = .ok (.iconst 0, 1) := by decide +kernel
theorem dX2_init_14 : decode cX2_init 14 = .ok (.putfield 15, 3) := by decide +kernel
theorem dX2_init_17 : decode cX2_init 17 = .ok (.return_, 1) := by decide +kernel
theorem dX2_copyFrom_0 : decode cX2_copyFrom 0 = .ok (.aload_n 1, 1) := by decide +kernel
theorem dX2_copyFrom_1 : decode cX2_copyFrom 1 = .ok (.getfield 9, 3) := by decide +kernel
theorem dX2_copyFrom_4 : decode cX2_copyFrom 4 = .ok (.iconst 0, 1) := by decide +kernel
theorem dX2_copyFrom_5 : decode cX2_copyFrom 5 = .ok (.aload_n 0, 1) := by decide +kernel
theorem dX2_copyFrom_6 : decode cX2_copyFrom 6 = .ok (.getfield 9, 3) := by decide +kernel
theorem dX2_copyFrom_9 : decode cX2_copyFrom 9 = .ok (.iconst 0, 1) := by decide +kernel
theorem dX2_copyFrom_10 : decode cX2_copyFrom 10 = .ok (.bipush 10, 2) := by decide +kernel
theorem dX2_copyFrom_12 : decode cX2_copyFrom 12 = .ok (.invokestatic 19, 3) := by decide +kernel
theorem dX2_copyFrom_15 : decode cX2_copyFrom 15 = .ok (.aload_n 0, 1) := by decide +kernel
theorem dX2_copyFrom_16 : decode cX2_copyFrom 16 = .ok (.aload_n 1, 1) := by decide +kernel
theorem dX2_copyFrom_17 : decode cX2_copyFrom 17 = .ok (.getfield 15, 3) := by decide +kernel
theorem dX2_copyFrom_20 : decode cX2_copyFrom 20 = .ok (.putfield 15, 3) := by decide +kernel
theorem dX2_copyFrom_23 : decode cX2_copyFrom 23 = .ok (.return_, 1) := by decide +kernel
theorem dX2_numberAt_0 : decode cX2_numberAt 0 = .ok (.iload_n 1, 1) := by decide +kernel
theorem dX2_numberAt_1 : decode cX2_numberAt 1 = .ok (.ifCond .lt 29, 3) := by decide +kernel
theorem dX2_numberAt_4 : decode cX2_numberAt 4 = .ok (.iload_n 1, 1) := by decide +kernel
theorem dX2_numberAt_5 : decode cX2_numberAt 5 = .ok (.aload_n 0, 1) := by decide +kernel
theorem dX2_numberAt_6 : decode cX2_numberAt 6 = .ok (.getfield 15, 3) := by decide +kernel
theorem dX2_numberAt_9 : decode cX2_numberAt 9 = .ok (.if_icmp .ge 21, 3) := by decide +kernel
theorem dX2_numberAt_12 : decode cX2_numberAt 12 = .ok (.iload_n 1, 1) := by decide +kernel
theorem dX2_numberAt_13 : decode cX2_numberAt 13 = .ok (.aload_n 0, 1) := by decide +kernel
theorem dX2_numberAt_14 : decode cX2_numberAt 14 = .ok (.getfield 9, 3) := by decide +kernel
theorem dX2_numberAt_17 : decode cX2_numberAt 17 = .ok (.arraylength, 1) := by decide +kernel
theorem dX2_numberAt_18 : decode cX2_numberAt 18 = .ok (.if_icmp .ge 12, 3) := by decide +kernel
theorem dX2_numberAt_21 : decode cX2_numberAt 21 = .ok (.aload_n 0, 1) := by decide +kernel
theorem dX2_numberAt_22 : decode cX2_numberAt 22 = .ok (.getfield 9, 3) := by decide +kernel
theorem dX2_numberAt_25 : decode cX2_numberAt 25 = .ok (.iload_n 1, 1) := by decide +kernel
theorem dX2_numberAt_26 : decode cX2_numberAt 26 = .ok (.iaload, 1) := by decide +kernel
theorem dX2_numberAt_27 : decode cX2_numberAt 27 = .ok (.goto 4, 3) := by decide +kernel
theorem dX2_numberAt_30 : decode cX2_numberAt 30 = .ok (.iconst (-1), 1) := by decide +kernel
theorem dX2_numberAt_31 : decode cX2_numberAt 31 = .ok (.ireturn, 1) := by decide +kernel
theorem dX2_placeOf_0 : decode cX2_placeOf 0 = .ok (.iconst 0, 1) := by decide +kernel
theorem dX2_placeOf_1 : decode cX2_placeOf 1 = .ok (.istore_n 2, 1) := by decide +kernel
theorem dX2_placeOf_2 : decode cX2_placeOf 2 = .ok (.iload_n 2, 1) := by decide +kernel
theorem dX2_placeOf_3 : decode cX2_placeOf 3 = .ok (.aload_n 0, 1) := by decide +kernel
theorem dX2_placeOf_4 : decode cX2_placeOf 4 = .ok (.getfield 15, 3) := by decide +kernel
theorem dX2_placeOf_7 : decode cX2_placeOf 7 = .ok (.if_icmp .ge 20, 3) := by decide +kernel
theorem dX2_placeOf_10 : decode cX2_placeOf 10 = .ok (.aload_n 0, 1) := by decide +kernel
theorem dX2_placeOf_11 : decode cX2_placeOf 11 = .ok (.iload_n 2, 1) := by decide +kernel
theorem dX2_placeOf_12 : decode cX2_placeOf 12 = .ok (.invokevirtual 25, 3) := by decide +kernel
theorem dX2_placeOf_15 : decode cX2_placeOf 15 = .ok (.iload_n 1, 1) := by decide +kernel
theorem dX2_placeOf_16 : decode cX2_placeOf 16 = .ok (.if_icmp .ne 5, 3) := by decide +kernel
theorem dX2_placeOf_19 : decode cX2_placeOf 19 = .ok (.iload_n 2, 1) := by decide +kernel
theorem dX2_placeOf_20 : decode cX2_placeOf 20 = .ok (.ireturn, 1) := by decide +kernel
theorem dX2_placeOf_21 : decode cX2_placeOf 21 = .ok (.iinc 2 1, 3) := by decide +kernel
theorem dX2_placeOf_24 : decode cX2_placeOf 24 = .ok (.goto (-22), 3) := by decide +kernel
theorem dX2_placeOf_27 : decode cX2_placeOf 27 = .ok (.iconst (-1), 1) := by decide +kernel
theorem dX2_placeOf_28 : decode cX2_placeOf 28 = .ok (.ireturn, 1) := by decide +kernel
theorem dX2_insert_0 : decode cX2_insert 0 = .ok (.iload_n 2, 1) := by decide +kernel
theorem dX2_insert_1 : decode cX2_insert 1 = .ok (.ifCond .lt 23, 3) := by decide +kernel
theorem dX2_insert_4 : decode cX2_insert 4 = .ok (.iload_n 2, 1) := by decide +kernel
theorem dX2_insert_5 : decode cX2_insert 5 = .ok (.aload_n 0, 1) := by decide +kernel
theorem dX2_insert_6 : decode cX2_insert 6 = .ok (.getfield 15, 3) := by decide +kernel
theorem dX2_insert_9 : decode cX2_insert 9 = .ok (.if_icmp .gt 15, 3) := by decide +kernel
theorem dX2_insert_12 : decode cX2_insert 12 = .ok (.aload_n 0, 1) := by decide +kernel
theorem dX2_insert_13 : decode cX2_insert 13 = .ok (.getfield 15, 3) := by decide +kernel
theorem dX2_insert_16 : decode cX2_insert 16 = .ok (.aload_n 0, 1) := by decide +kernel
theorem dX2_insert_17 : decode cX2_insert 17 = .ok (.getfield 9, 3) := by decide +kernel
theorem dX2_insert_20 : decode cX2_insert 20 = .ok (.arraylength, 1) := by decide +kernel
theorem dX2_insert_21 : decode cX2_insert 21 = .ok (.if_icmp .lt 4, 3) := by decide +kernel
theorem dX2_insert_24 : decode cX2_insert 24 = .ok (.return_, 1) := by decide +kernel
theorem dX2_insert_25 : decode cX2_insert 25 = .ok (.aload_n 0, 1) := by decide +kernel
theorem dX2_insert_26 : decode cX2_insert 26 = .ok (.getfield 15, 3) := by decide +kernel
theorem dX2_insert_29 : decode cX2_insert 29 = .ok (.istore_n 3, 1) := by decide +kernel
theorem dX2_insert_30 : decode cX2_insert 30 = .ok (.iload_n 3, 1) := by decide +kernel
theorem dX2_insert_31 : decode cX2_insert 31 = .ok (.iload_n 2, 1) := by decide +kernel
theorem dX2_insert_32 : decode cX2_insert 32 = .ok (.if_icmp .le 23, 3) := by decide +kernel
theorem dX2_insert_35 : decode cX2_insert 35 = .ok (.aload_n 0, 1) := by decide +kernel
theorem dX2_insert_36 : decode cX2_insert 36 = .ok (.getfield 9, 3) := by decide +kernel
theorem dX2_insert_39 : decode cX2_insert 39 = .ok (.iload_n 3, 1) := by decide +kernel
theorem dX2_insert_40 : decode cX2_insert 40 = .ok (.aload_n 0, 1) := by decide +kernel
theorem dX2_insert_41 : decode cX2_insert 41 = .ok (.getfield 9, 3) := by decide +kernel
theorem dX2_insert_44 : decode cX2_insert 44 = .ok (.iload_n 3, 1) := by decide +kernel
theorem dX2_insert_45 : decode cX2_insert 45 = .ok (.iconst 1, 1) := by decide +kernel
theorem dX2_insert_46 : decode cX2_insert 46 = .ok (.isub, 1) := by decide +kernel
theorem dX2_insert_47 : decode cX2_insert 47 = .ok (.iaload, 1) := by decide +kernel
theorem dX2_insert_48 : decode cX2_insert 48 = .ok (.iastore, 1) := by decide +kernel
theorem dX2_insert_49 : decode cX2_insert 49 = .ok (.iinc 3 (-1), 3) := by decide +kernel
theorem dX2_insert_52 : decode cX2_insert 52 = .ok (.goto (-22), 3) := by decide +kernel
theorem dX2_insert_55 : decode cX2_insert 55 = .ok (.aload_n 0, 1) := by decide +kernel
theorem dX2_insert_56 : decode cX2_insert 56 = .ok (.getfield 9, 3) := by decide +kernel
theorem dX2_insert_59 : decode cX2_insert 59 = .ok (.iload_n 2, 1) := by decide +kernel
theorem dX2_insert_60 : decode cX2_insert 60 = .ok (.iload_n 1, 1) := by decide +kernel
theorem dX2_insert_61 : decode cX2_insert 61 = .ok (.iastore, 1) := by decide +kernel
theorem dX2_insert_62 : decode cX2_insert 62 = .ok (.aload_n 0, 1) := by decide +kernel
theorem dX2_insert_63 : decode cX2_insert 63 = .ok (.dup, 1) := by decide +kernel
theorem dX2_insert_64 : decode cX2_insert 64 = .ok (.getfield 15, 3) := by decide +kernel
theorem dX2_insert_67 : decode cX2_insert 67 = .ok (.iconst 1, 1) := by decide +kernel
theorem dX2_insert_68 : decode cX2_insert 68 = .ok (.iadd, 1) := by decide +kernel
theorem dX2_insert_69 : decode cX2_insert 69 = .ok (.putfield 15, 3) := by decide +kernel
theorem dX2_insert_72 : decode cX2_insert 72 = .ok (.return_, 1) := by decide +kernel
theorem dX2_takeOut_0 : decode cX2_takeOut 0 = .ok (.iconst 0, 1) := by decide +kernel
theorem dX2_takeOut_1 : decode cX2_takeOut 1 = .ok (.istore_n 2, 1) := by decide +kernel
theorem dX2_takeOut_2 : decode cX2_takeOut 2 = .ok (.iconst 0, 1) := by decide +kernel
theorem dX2_takeOut_3 : decode cX2_takeOut 3 = .ok (.istore_n 3, 1) := by decide +kernel
theorem dX2_takeOut_4 : decode cX2_takeOut 4 = .ok (.iload_n 3, 1) := by decide +kernel
theorem dX2_takeOut_5 : decode cX2_takeOut 5 = .ok (.aload_n 0, 1) := by decide +kernel
theorem dX2_takeOut_6 : decode cX2_takeOut 6 = .ok (.getfield 15, 3) := by decide +kernel
theorem dX2_takeOut_9 : decode cX2_takeOut 9 = .ok (.if_icmp .ge 43, 3) := by decide +kernel
theorem dX2_takeOut_12 : decode cX2_takeOut 12 = .ok (.iload_n 3, 1) := by decide +kernel
theorem dX2_takeOut_13 : decode cX2_takeOut 13 = .ok (.aload_n 0, 1) := by decide +kernel
theorem dX2_takeOut_14 : decode cX2_takeOut 14 = .ok (.getfield 9, 3) := by decide +kernel
theorem dX2_takeOut_17 : decode cX2_takeOut 17 = .ok (.arraylength, 1) := by decide +kernel
theorem dX2_takeOut_18 : decode cX2_takeOut 18 = .ok (.if_icmp .ge 34, 3) := by decide +kernel
theorem dX2_takeOut_21 : decode cX2_takeOut 21 = .ok (.aload_n 0, 1) := by decide +kernel
theorem dX2_takeOut_22 : decode cX2_takeOut 22 = .ok (.getfield 9, 3) := by decide +kernel
theorem dX2_takeOut_25 : decode cX2_takeOut 25 = .ok (.iload_n 3, 1) := by decide +kernel
theorem dX2_takeOut_26 : decode cX2_takeOut 26 = .ok (.iaload, 1) := by decide +kernel
theorem dX2_takeOut_27 : decode cX2_takeOut 27 = .ok (.iload_n 1, 1) := by decide +kernel
theorem dX2_takeOut_28 : decode cX2_takeOut 28 = .ok (.if_icmp .eq 18, 3) := by decide +kernel
theorem dX2_takeOut_31 : decode cX2_takeOut 31 = .ok (.aload_n 0, 1) := by decide +kernel
theorem dX2_takeOut_32 : decode cX2_takeOut 32 = .ok (.getfield 9, 3) := by decide +kernel
theorem dX2_takeOut_35 : decode cX2_takeOut 35 = .ok (.iload_n 2, 1) := by decide +kernel
theorem dX2_takeOut_36 : decode cX2_takeOut 36 = .ok (.aload_n 0, 1) := by decide +kernel
theorem dX2_takeOut_37 : decode cX2_takeOut 37 = .ok (.getfield 9, 3) := by decide +kernel
theorem dX2_takeOut_40 : decode cX2_takeOut 40 = .ok (.iload_n 3, 1) := by decide +kernel
theorem dX2_takeOut_41 : decode cX2_takeOut 41 = .ok (.iaload, 1) := by decide +kernel
theorem dX2_takeOut_42 : decode cX2_takeOut 42 = .ok (.iastore, 1) := by decide +kernel
theorem dX2_takeOut_43 : decode cX2_takeOut 43 = .ok (.iinc 2 1, 3) := by decide +kernel
theorem dX2_takeOut_46 : decode cX2_takeOut 46 = .ok (.iinc 3 1, 3) := by decide +kernel
theorem dX2_takeOut_49 : decode cX2_takeOut 49 = .ok (.goto (-45), 3) := by decide +kernel
theorem dX2_takeOut_52 : decode cX2_takeOut 52 = .ok (.aload_n 0, 1) := by decide +kernel
theorem dX2_takeOut_53 : decode cX2_takeOut 53 = .ok (.iload_n 2, 1) := by decide +kernel
theorem dX2_takeOut_54 : decode cX2_takeOut 54 = .ok (.putfield 15, 3) := by decide +kernel
theorem dX2_takeOut_57 : decode cX2_takeOut 57 = .ok (.return_, 1) := by decide +kernel
theorem dX2_moveAheadOf_0 : decode cX2_moveAheadOf 0 = .ok (.aload_n 0, 1) := by decide +kernel
theorem dX2_moveAheadOf_1 : decode cX2_moveAheadOf 1 = .ok (.iload_n 1, 1) := by decide +kernel
theorem dX2_moveAheadOf_2 : decode cX2_moveAheadOf 2 = .ok (.invokevirtual 29, 3) := by decide +kernel
theorem dX2_moveAheadOf_5 : decode cX2_moveAheadOf 5 = .ok (.aload_n 0, 1) := by decide +kernel
theorem dX2_moveAheadOf_6 : decode cX2_moveAheadOf 6 = .ok (.iload_n 1, 1) := by decide +kernel
theorem dX2_moveAheadOf_7 : decode cX2_moveAheadOf 7 = .ok (.aload_n 0, 1) := by decide +kernel
theorem dX2_moveAheadOf_8 : decode cX2_moveAheadOf 8 = .ok (.iload_n 2, 1) := by decide +kernel
theorem dX2_moveAheadOf_9 : decode cX2_moveAheadOf 9 = .ok (.invokevirtual 33, 3) := by decide +kernel
theorem dX2_moveAheadOf_12 : decode cX2_moveAheadOf 12 = .ok (.invokevirtual 36, 3) := by decide +kernel
theorem dX2_moveAheadOf_15 : decode cX2_moveAheadOf 15 = .ok (.return_, 1) := by decide +kernel
theorem dX2_moveBehind_0 : decode cX2_moveBehind 0 = .ok (.aload_n 0, 1) := by decide +kernel
theorem dX2_moveBehind_1 : decode cX2_moveBehind 1 = .ok (.iload_n 1, 1) := by decide +kernel
theorem dX2_moveBehind_2 : decode cX2_moveBehind 2 = .ok (.invokevirtual 29, 3) := by decide +kernel
theorem dX2_moveBehind_5 : decode cX2_moveBehind 5 = .ok (.aload_n 0, 1) := by decide +kernel
theorem dX2_moveBehind_6 : decode cX2_moveBehind 6 = .ok (.iload_n 1, 1) := by decide +kernel
theorem dX2_moveBehind_7 : decode cX2_moveBehind 7 = .ok (.aload_n 0, 1) := by decide +kernel
theorem dX2_moveBehind_8 : decode cX2_moveBehind 8 = .ok (.iload_n 2, 1) := by decide +kernel
theorem dX2_moveBehind_9 : decode cX2_moveBehind 9 = .ok (.invokevirtual 33, 3) := by decide +kernel
theorem dX2_moveBehind_12 : decode cX2_moveBehind 12 = .ok (.iconst 1, 1) := by decide +kernel
theorem dX2_moveBehind_13 : decode cX2_moveBehind 13 = .ok (.iadd, 1) := by decide +kernel
theorem dX2_moveBehind_14 : decode cX2_moveBehind 14 = .ok (.invokevirtual 36, 3) := by decide +kernel
theorem dX2_moveBehind_17 : decode cX2_moveBehind 17 = .ok (.return_, 1) := by decide +kernel
theorem dX3_init_0 : decode cX3_init 0 = .ok (.aload_n 0, 1) := by decide +kernel
theorem dX3_init_1 : decode cX3_init 1 = .ok (.invokespecial 3, 3) := by decide +kernel
theorem dX3_init_4 : decode cX3_init 4 = .ok (.aload_n 0, 1) := by decide +kernel
theorem dX3_init_5 : decode cX3_init 5 = .ok (.bipush 10, 2) := by decide +kernel
theorem dX3_init_7 : decode cX3_init 7 = .ok (.anewarray 9, 3) := by decide +kernel
theorem dX3_init_10 : decode cX3_init 10 = .ok (.putfield 11, 3) := by decide +kernel
theorem dX3_init_13 : decode cX3_init 13 = .ok (.aload_n 0, 1) := by decide +kernel
theorem dX3_init_14 : decode cX3_init 14 = .ok (.new 9, 3) := by decide +kernel
theorem dX3_init_17 : decode cX3_init 17 = .ok (.dup, 1) := by decide +kernel
theorem dX3_init_18 : decode cX3_init 18 = .ok (.invokespecial 17, 3) := by decide +kernel
theorem dX3_init_21 : decode cX3_init 21 = .ok (.putfield 18, 3) := by decide +kernel
theorem dX3_init_24 : decode cX3_init 24 = .ok (.aload_n 0, 1) := by decide +kernel
theorem dX3_init_25 : decode cX3_init 25 = .ok (.new 22, 3) := by decide +kernel
theorem dX3_init_28 : decode cX3_init 28 = .ok (.dup, 1) := by decide +kernel
theorem dX3_init_29 : decode cX3_init 29 = .ok (.invokespecial 24, 3) := by decide +kernel
theorem dX3_init_32 : decode cX3_init 32 = .ok (.putfield 25, 3) := by decide +kernel
theorem dX3_init_35 : decode cX3_init 35 = .ok (.aload_n 0, 1) := by decide +kernel
theorem dX3_init_36 : decode cX3_init 36 = .ok (.bipush 10, 2) := by decide +kernel
theorem dX3_init_38 : decode cX3_init 38 = .ok (.newarray .int, 2) := by decide +kernel
theorem dX3_init_40 : decode cX3_init 40 = .ok (.putfield 29, 3) := by decide +kernel
theorem dX3_init_43 : decode cX3_init 43 = .ok (.aload_n 0, 1) := by decide +kernel
theorem dX3_init_44 : decode cX3_init 44 = .ok (.iconst 0, 1) := by decide +kernel
theorem dX3_init_45 : decode cX3_init 45 = .ok (.putfield 33, 3) := by decide +kernel
theorem dX3_init_48 : decode cX3_init 48 = .ok (.aload_n 0, 1) := by decide +kernel
theorem dX3_init_49 : decode cX3_init 49 = .ok (.iconst 0, 1) := by decide +kernel
theorem dX3_init_50 : decode cX3_init 50 = .ok (.putfield 37, 3) := by decide +kernel
theorem dX3_init_53 : decode cX3_init 53 = .ok (.aload_n 0, 1) := by decide +kernel
theorem dX3_init_54 : decode cX3_init 54 = .ok (.iconst (-1), 1) := by decide +kernel
theorem dX3_init_55 : decode cX3_init 55 = .ok (.putfield 40, 3) := by decide +kernel
theorem dX3_init_58 : decode cX3_init 58 = .ok (.aload_n 0, 1) := by decide +kernel
theorem dX3_init_59 : decode cX3_init 59 = .ok (.iconst 0, 1) := by decide +kernel
theorem dX3_init_60 : decode cX3_init 60 = .ok (.putfield 43, 3) := by decide +kernel
theorem dX3_init_63 : decode cX3_init 63 = .ok (.aload_n 0, 1) := by decide +kernel
theorem dX3_init_64 : decode cX3_init 64 = .ok (.iconst 0, 1) := by decide +kernel
theorem dX3_init_65 : decode cX3_init 65 = .ok (.putfield 46, 3) := by decide +kernel
theorem dX3_init_68 : decode cX3_init 68 = .ok (.aload_n 0, 1) := by decide +kernel
theorem dX3_init_69 : decode cX3_init 69 = .ok (.iconst 0, 1) := by decide +kernel
theorem dX3_init_70 : decode cX3_init 70 = .ok (.putfield 49, 3) := by decide +kernel
theorem dX3_init_73 : decode cX3_init 73 = .ok (.iconst 0, 1) := by decide +kernel
theorem dX3_init_74 : decode cX3_init 74 = .ok (.istore_n 1, 1) := by decide +kernel
theorem dX3_init_75 : decode cX3_init 75 = .ok (.iload_n 1, 1) := by decide +kernel
theorem dX3_init_76 : decode cX3_init 76 = .ok (.aload_n 0, 1) := by decide +kernel
theorem dX3_init_77 : decode cX3_init 77 = .ok (.getfield 11, 3) := by decide +kernel
theorem dX3_init_80 : decode cX3_init 80 = .ok (.arraylength, 1) := by decide +kernel
theorem dX3_init_81 : decode cX3_init 81 = .ok (.if_icmp .ge 22, 3) := by decide +kernel
theorem dX3_init_84 : decode cX3_init 84 = .ok (.aload_n 0, 1) := by decide +kernel
theorem dX3_init_85 : decode cX3_init 85 = .ok (.getfield 11, 3) := by decide +kernel
theorem dX3_init_88 : decode cX3_init 88 = .ok (.iload_n 1, 1) := by decide +kernel
theorem dX3_init_89 : decode cX3_init 89 = .ok (.new 9, 3) := by decide +kernel
theorem dX3_init_92 : decode cX3_init 92 = .ok (.dup, 1) := by decide +kernel
theorem dX3_init_93 : decode cX3_init 93 = .ok (.invokespecial 17, 3) := by decide +kernel
theorem dX3_init_96 : decode cX3_init 96 = .ok (.aastore, 1) := by decide +kernel
theorem dX3_init_97 : decode cX3_init 97 = .ok (.iinc 1 1, 3) := by decide +kernel
theorem dX3_init_100 : decode cX3_init 100 = .ok (.goto (-25), 3) := by decide +kernel
theorem dX3_init_103 : decode cX3_init 103 = .ok (.return_, 1) := by decide +kernel
theorem dX3_copyFrom_0 : decode cX3_copyFrom 0 = .ok (.aload_n 0, 1) := by decide +kernel
theorem dX3_copyFrom_1 : decode cX3_copyFrom 1 = .ok (.aload_n 1, 1) := by decide +kernel
theorem dX3_copyFrom_2 : decode cX3_copyFrom 2 = .ok (.getfield 33, 3) := by decide +kernel
theorem dX3_copyFrom_5 : decode cX3_copyFrom 5 = .ok (.putfield 33, 3) := by decide +kernel
theorem dX3_copyFrom_8 : decode cX3_copyFrom 8 = .ok (.iconst 0, 1) := by decide +kernel
theorem dX3_copyFrom_9 : decode cX3_copyFrom 9 = .ok (.istore_n 2, 1) := by decide +kernel
theorem dX3_copyFrom_10 : decode cX3_copyFrom 10 = .ok (.iload_n 2, 1) := by decide +kernel
theorem dX3_copyFrom_11 : decode cX3_copyFrom 11 = .ok (.aload_n 0, 1) := by decide +kernel
theorem dX3_copyFrom_12 : decode cX3_copyFrom 12 = .ok (.getfield 33, 3) := by decide +kernel
theorem dX3_copyFrom_15 : decode cX3_copyFrom 15 = .ok (.if_icmp .ge 33, 3) := by decide +kernel
theorem dX3_copyFrom_18 : decode cX3_copyFrom 18 = .ok (.iload_n 2, 1) := by decide +kernel
theorem dX3_copyFrom_19 : decode cX3_copyFrom 19 = .ok (.aload_n 0, 1) := by decide +kernel
theorem dX3_copyFrom_20 : decode cX3_copyFrom 20 = .ok (.getfield 11, 3) := by decide +kernel
theorem dX3_copyFrom_23 : decode cX3_copyFrom 23 = .ok (.arraylength, 1) := by decide +kernel
theorem dX3_copyFrom_24 : decode cX3_copyFrom 24 = .ok (.if_icmp .ge 24, 3) := by decide +kernel
theorem dX3_copyFrom_27 : decode cX3_copyFrom 27 = .ok (.aload_n 0, 1) := by decide +kernel
theorem dX3_copyFrom_28 : decode cX3_copyFrom 28 = .ok (.getfield 11, 3) := by decide +kernel
theorem dX3_copyFrom_31 : decode cX3_copyFrom 31 = .ok (.iload_n 2, 1) := by decide +kernel
theorem dX3_copyFrom_32 : decode cX3_copyFrom 32 = .ok (.aaload, 1) := by decide +kernel
theorem dX3_copyFrom_33 : decode cX3_copyFrom 33 = .ok (.aload_n 1, 1) := by decide +kernel
theorem dX3_copyFrom_34 : decode cX3_copyFrom 34 = .ok (.getfield 11, 3) := by decide +kernel
theorem dX3_copyFrom_37 : decode cX3_copyFrom 37 = .ok (.iload_n 2, 1) := by decide +kernel
theorem dX3_copyFrom_38 : decode cX3_copyFrom 38 = .ok (.aaload, 1) := by decide +kernel
theorem dX3_copyFrom_39 : decode cX3_copyFrom 39 = .ok (.invokevirtual 52, 3) := by decide +kernel
theorem dX3_copyFrom_42 : decode cX3_copyFrom 42 = .ok (.iinc 2 1, 3) := by decide +kernel
theorem dX3_copyFrom_45 : decode cX3_copyFrom 45 = .ok (.goto (-35), 3) := by decide +kernel
theorem dX3_copyFrom_48 : decode cX3_copyFrom 48 = .ok (.aload_n 0, 1) := by decide +kernel
theorem dX3_copyFrom_49 : decode cX3_copyFrom 49 = .ok (.getfield 25, 3) := by decide +kernel
theorem dX3_copyFrom_52 : decode cX3_copyFrom 52 = .ok (.aload_n 1, 1) := by decide +kernel
theorem dX3_copyFrom_53 : decode cX3_copyFrom 53 = .ok (.getfield 25, 3) := by decide +kernel
theorem dX3_copyFrom_56 : decode cX3_copyFrom 56 = .ok (.invokevirtual 56, 3) := by decide +kernel
theorem dX3_copyFrom_59 : decode cX3_copyFrom 59 = .ok (.aload_n 0, 1) := by decide +kernel
theorem dX3_copyFrom_60 : decode cX3_copyFrom 60 = .ok (.aload_n 1, 1) := by decide +kernel
theorem dX3_copyFrom_61 : decode cX3_copyFrom 61 = .ok (.getfield 37, 3) := by decide +kernel
theorem dX3_copyFrom_64 : decode cX3_copyFrom 64 = .ok (.putfield 37, 3) := by decide +kernel
theorem dX3_copyFrom_67 : decode cX3_copyFrom 67 = .ok (.aload_n 0, 1) := by decide +kernel
theorem dX3_copyFrom_68 : decode cX3_copyFrom 68 = .ok (.aload_n 1, 1) := by decide +kernel
theorem dX3_copyFrom_69 : decode cX3_copyFrom 69 = .ok (.getfield 40, 3) := by decide +kernel
theorem dX3_copyFrom_72 : decode cX3_copyFrom 72 = .ok (.putfield 40, 3) := by decide +kernel
theorem dX3_copyFrom_75 : decode cX3_copyFrom 75 = .ok (.aload_n 0, 1) := by decide +kernel
theorem dX3_copyFrom_76 : decode cX3_copyFrom 76 = .ok (.aload_n 1, 1) := by decide +kernel
theorem dX3_copyFrom_77 : decode cX3_copyFrom 77 = .ok (.getfield 43, 3) := by decide +kernel
theorem dX3_copyFrom_80 : decode cX3_copyFrom 80 = .ok (.putfield 43, 3) := by decide +kernel
theorem dX3_copyFrom_83 : decode cX3_copyFrom 83 = .ok (.aload_n 0, 1) := by decide +kernel
theorem dX3_copyFrom_84 : decode cX3_copyFrom 84 = .ok (.aload_n 1, 1) := by decide +kernel
theorem dX3_copyFrom_85 : decode cX3_copyFrom 85 = .ok (.getfield 46, 3) := by decide +kernel
theorem dX3_copyFrom_88 : decode cX3_copyFrom 88 = .ok (.putfield 46, 3) := by decide +kernel
theorem dX3_copyFrom_91 : decode cX3_copyFrom 91 = .ok (.aload_n 0, 1) := by decide +kernel
theorem dX3_copyFrom_92 : decode cX3_copyFrom 92 = .ok (.aload_n 1, 1) := by decide +kernel
theorem dX3_copyFrom_93 : decode cX3_copyFrom 93 = .ok (.getfield 49, 3) := by decide +kernel
theorem dX3_copyFrom_96 : decode cX3_copyFrom 96 = .ok (.putfield 49, 3) := by decide +kernel
theorem dX3_copyFrom_99 : decode cX3_copyFrom 99 = .ok (.return_, 1) := by decide +kernel
theorem dX3_isFighter_0 : decode cX3_isFighter 0 = .ok (.iload_n 1, 1) := by decide +kernel
theorem dX3_isFighter_1 : decode cX3_isFighter 1 = .ok (.ifCond .lt 15, 3) := by decide +kernel
theorem dX3_isFighter_4 : decode cX3_isFighter 4 = .ok (.iload_n 1, 1) := by decide +kernel
theorem dX3_isFighter_5 : decode cX3_isFighter 5 = .ok (.aload_n 0, 1) := by decide +kernel
theorem dX3_isFighter_6 : decode cX3_isFighter 6 = .ok (.getfield 33, 3) := by decide +kernel
theorem dX3_isFighter_9 : decode cX3_isFighter 9 = .ok (.if_icmp .ge 7, 3) := by decide +kernel
theorem dX3_isFighter_12 : decode cX3_isFighter 12 = .ok (.iconst 1, 1) := by decide +kernel
theorem dX3_isFighter_13 : decode cX3_isFighter 13 = .ok (.goto 4, 3) := by decide +kernel
theorem dX3_isFighter_16 : decode cX3_isFighter 16 = .ok (.iconst 0, 1) := by decide +kernel
theorem dX3_isFighter_17 : decode cX3_isFighter 17 = .ok (.ireturn, 1) := by decide +kernel
theorem dX3_at_0 : decode cX3_at 0 = .ok (.iload_n 1, 1) := by decide +kernel
theorem dX3_at_1 : decode cX3_at 1 = .ok (.ifCond .lt 29, 3) := by decide +kernel
theorem dX3_at_4 : decode cX3_at 4 = .ok (.iload_n 1, 1) := by decide +kernel
theorem dX3_at_5 : decode cX3_at 5 = .ok (.aload_n 0, 1) := by decide +kernel
theorem dX3_at_6 : decode cX3_at 6 = .ok (.getfield 33, 3) := by decide +kernel
theorem dX3_at_9 : decode cX3_at 9 = .ok (.if_icmp .ge 21, 3) := by decide +kernel
theorem dX3_at_12 : decode cX3_at 12 = .ok (.iload_n 1, 1) := by decide +kernel
theorem dX3_at_13 : decode cX3_at 13 = .ok (.aload_n 0, 1) := by decide +kernel
theorem dX3_at_14 : decode cX3_at 14 = .ok (.getfield 11, 3) := by decide +kernel
theorem dX3_at_17 : decode cX3_at 17 = .ok (.arraylength, 1) := by decide +kernel
theorem dX3_at_18 : decode cX3_at 18 = .ok (.if_icmp .ge 12, 3) := by decide +kernel
theorem dX3_at_21 : decode cX3_at 21 = .ok (.aload_n 0, 1) := by decide +kernel
theorem dX3_at_22 : decode cX3_at 22 = .ok (.getfield 11, 3) := by decide +kernel
theorem dX3_at_25 : decode cX3_at 25 = .ok (.iload_n 1, 1) := by decide +kernel
theorem dX3_at_26 : decode cX3_at 26 = .ok (.aaload, 1) := by decide +kernel
theorem dX3_at_27 : decode cX3_at 27 = .ok (.goto 7, 3) := by decide +kernel
theorem dX3_at_30 : decode cX3_at 30 = .ok (.aload_n 0, 1) := by decide +kernel
theorem dX3_at_31 : decode cX3_at 31 = .ok (.getfield 18, 3) := by decide +kernel
theorem dX3_at_34 : decode cX3_at 34 = .ok (.areturn, 1) := by decide +kernel
theorem dX3_areFoes_0 : decode cX3_areFoes 0 = .ok (.aload_n 0, 1) := by decide +kernel
theorem dX3_areFoes_1 : decode cX3_areFoes 1 = .ok (.iload_n 1, 1) := by decide +kernel
theorem dX3_areFoes_2 : decode cX3_areFoes 2 = .ok (.invokevirtual 59, 3) := by decide +kernel
theorem dX3_areFoes_5 : decode cX3_areFoes 5 = .ok (.getfield 63, 3) := by decide +kernel
theorem dX3_areFoes_8 : decode cX3_areFoes 8 = .ok (.aload_n 0, 1) := by decide +kernel
theorem dX3_areFoes_9 : decode cX3_areFoes 9 = .ok (.iload_n 2, 1) := by decide +kernel
theorem dX3_areFoes_10 : decode cX3_areFoes 10 = .ok (.invokevirtual 59, 3) := by decide +kernel
theorem dX3_areFoes_13 : decode cX3_areFoes 13 = .ok (.getfield 63, 3) := by decide +kernel
theorem dX3_areFoes_16 : decode cX3_areFoes 16 = .ok (.if_icmp .eq 7, 3) := by decide +kernel
theorem dX3_areFoes_19 : decode cX3_areFoes 19 = .ok (.iconst 1, 1) := by decide +kernel
theorem dX3_areFoes_20 : decode cX3_areFoes 20 = .ok (.goto 4, 3) := by decide +kernel
theorem dX3_areFoes_23 : decode cX3_areFoes 23 = .ok (.iconst 0, 1) := by decide +kernel
theorem dX3_areFoes_24 : decode cX3_areFoes 24 = .ok (.ireturn, 1) := by decide +kernel
theorem dX3_enter_0 : decode cX3_enter 0 = .ok (.aload_n 0, 1) := by decide +kernel
theorem dX3_enter_1 : decode cX3_enter 1 = .ok (.getfield 33, 3) := by decide +kernel
theorem dX3_enter_4 : decode cX3_enter 4 = .ok (.ifCond .lt 15, 3) := by decide +kernel
theorem dX3_enter_7 : decode cX3_enter 7 = .ok (.aload_n 0, 1) := by decide +kernel
theorem dX3_enter_8 : decode cX3_enter 8 = .ok (.getfield 33, 3) := by decide +kernel
theorem dX3_enter_11 : decode cX3_enter 11 = .ok (.aload_n 0, 1) := by decide +kernel
theorem dX3_enter_12 : decode cX3_enter 12 = .ok (.getfield 11, 3) := by decide +kernel
theorem dX3_enter_15 : decode cX3_enter 15 = .ok (.arraylength, 1) := by decide +kernel
theorem dX3_enter_16 : decode cX3_enter 16 = .ok (.if_icmp .lt 5, 3) := by decide +kernel
theorem dX3_enter_19 : decode cX3_enter 19 = .ok (.iconst (-1), 1) := by decide +kernel
theorem dX3_enter_20 : decode cX3_enter 20 = .ok (.ireturn, 1) := by decide +kernel
theorem dX3_enter_21 : decode cX3_enter 21 = .ok (.aload_n 0, 1) := by decide +kernel
theorem dX3_enter_22 : decode cX3_enter 22 = .ok (.getfield 33, 3) := by decide +kernel
theorem dX3_enter_25 : decode cX3_enter 25 = .ok (.istore 5, 2) := by decide +kernel
theorem dX3_enter_27 : decode cX3_enter 27 = .ok (.aload_n 0, 1) := by decide +kernel
theorem dX3_enter_28 : decode cX3_enter 28 = .ok (.getfield 11, 3) := by decide +kernel
theorem dX3_enter_31 : decode cX3_enter 31 = .ok (.iload 5, 2) := by decide +kernel
theorem dX3_enter_33 : decode cX3_enter 33 = .ok (.aaload, 1) := by decide +kernel
theorem dX3_enter_34 : decode cX3_enter 34 = .ok (.iload_n 1, 1) := by decide +kernel
theorem dX3_enter_35 : decode cX3_enter 35 = .ok (.iload_n 2, 1) := by decide +kernel
theorem dX3_enter_36 : decode cX3_enter 36 = .ok (.iload_n 3, 1) := by decide +kernel
theorem dX3_enter_37 : decode cX3_enter 37 = .ok (.iload 4, 2) := by decide +kernel
theorem dX3_enter_39 : decode cX3_enter 39 = .ok (.invokevirtual 66, 3) := by decide +kernel
theorem dX3_enter_42 : decode cX3_enter 42 = .ok (.aload_n 0, 1) := by decide +kernel
theorem dX3_enter_43 : decode cX3_enter 43 = .ok (.dup, 1) := by decide +kernel
theorem dX3_enter_44 : decode cX3_enter 44 = .ok (.getfield 33, 3) := by decide +kernel
theorem dX3_enter_47 : decode cX3_enter 47 = .ok (.iconst 1, 1) := by decide +kernel
theorem dX3_enter_48 : decode cX3_enter 48 = .ok (.iadd, 1) := by decide +kernel
theorem dX3_enter_49 : decode cX3_enter 49 = .ok (.putfield 33, 3) := by decide +kernel
theorem dX3_enter_52 : decode cX3_enter 52 = .ok (.aload_n 0, 1) := by decide +kernel
theorem dX3_enter_53 : decode cX3_enter 53 = .ok (.iload 5, 2) := by decide +kernel
theorem dX3_enter_55 : decode cX3_enter 55 = .ok (.invokevirtual 70, 3) := by decide +kernel
theorem dX3_enter_58 : decode cX3_enter 58 = .ok (.iload 5, 2) := by decide +kernel
theorem dX3_enter_60 : decode cX3_enter 60 = .ok (.ireturn, 1) := by decide +kernel
theorem dX3_lineUp_0 : decode cX3_lineUp 0 = .ok (.aload_n 0, 1) := by decide +kernel
theorem dX3_lineUp_1 : decode cX3_lineUp 1 = .ok (.iload_n 1, 1) := by decide +kernel
theorem dX3_lineUp_2 : decode cX3_lineUp 2 = .ok (.invokevirtual 59, 3) := by decide +kernel
theorem dX3_lineUp_5 : decode cX3_lineUp 5 = .ok (.getfield 74, 3) := by decide +kernel
theorem dX3_lineUp_8 : decode cX3_lineUp 8 = .ok (.istore_n 2, 1) := by decide +kernel
theorem dX3_lineUp_9 : decode cX3_lineUp 9 = .ok (.iconst 0, 1) := by decide +kernel
theorem dX3_lineUp_10 : decode cX3_lineUp 10 = .ok (.istore_n 3, 1) := by decide +kernel
theorem dX3_lineUp_11 : decode cX3_lineUp 11 = .ok (.iload_n 3, 1) := by decide +kernel
theorem dX3_lineUp_12 : decode cX3_lineUp 12 = .ok (.aload_n 0, 1) := by decide +kernel
theorem dX3_lineUp_13 : decode cX3_lineUp 13 = .ok (.getfield 25, 3) := by decide +kernel
theorem dX3_lineUp_16 : decode cX3_lineUp 16 = .ok (.getfield 77, 3) := by decide +kernel
theorem dX3_lineUp_19 : decode cX3_lineUp 19 = .ok (.if_icmp .ge 28, 3) := by decide +kernel
theorem dX3_lineUp_22 : decode cX3_lineUp 22 = .ok (.aload_n 0, 1) := by decide +kernel
theorem dX3_lineUp_23 : decode cX3_lineUp 23 = .ok (.aload_n 0, 1) := by decide +kernel
theorem dX3_lineUp_24 : decode cX3_lineUp 24 = .ok (.getfield 25, 3) := by decide +kernel
theorem dX3_lineUp_27 : decode cX3_lineUp 27 = .ok (.iload_n 3, 1) := by decide +kernel
theorem dX3_lineUp_28 : decode cX3_lineUp 28 = .ok (.invokevirtual 80, 3) := by decide +kernel
theorem dX3_lineUp_31 : decode cX3_lineUp 31 = .ok (.invokevirtual 59, 3) := by decide +kernel
theorem dX3_lineUp_34 : decode cX3_lineUp 34 = .ok (.getfield 74, 3) := by decide +kernel
theorem dX3_lineUp_37 : decode cX3_lineUp 37 = .ok (.iload_n 2, 1) := by decide +kernel
theorem dX3_lineUp_38 : decode cX3_lineUp 38 = .ok (.if_icmp .lt 9, 3) := by decide +kernel
theorem dX3_lineUp_41 : decode cX3_lineUp 41 = .ok (.iinc 3 1, 3) := by decide +kernel
theorem dX3_lineUp_44 : decode cX3_lineUp 44 = .ok (.goto (-33), 3) := by decide +kernel
theorem dX3_lineUp_47 : decode cX3_lineUp 47 = .ok (.aload_n 0, 1) := by decide +kernel
theorem dX3_lineUp_48 : decode cX3_lineUp 48 = .ok (.getfield 25, 3) := by decide +kernel
theorem dX3_lineUp_51 : decode cX3_lineUp 51 = .ok (.iload_n 1, 1) := by decide +kernel
theorem dX3_lineUp_52 : decode cX3_lineUp 52 = .ok (.iload_n 3, 1) := by decide +kernel
theorem dX3_lineUp_53 : decode cX3_lineUp 53 = .ok (.invokevirtual 84, 3) := by decide +kernel
theorem dX3_lineUp_56 : decode cX3_lineUp 56 = .ok (.return_, 1) := by decide +kernel
theorem dX3_beginAnew_0 : decode cX3_beginAnew 0 = .ok (.aload_n 0, 1) := by decide +kernel
theorem dX3_beginAnew_1 : decode cX3_beginAnew 1 = .ok (.getfield 25, 3) := by decide +kernel
theorem dX3_beginAnew_4 : decode cX3_beginAnew 4 = .ok (.iconst 0, 1) := by decide +kernel
theorem dX3_beginAnew_5 : decode cX3_beginAnew 5 = .ok (.putfield 77, 3) := by decide +kernel
theorem dX3_beginAnew_8 : decode cX3_beginAnew 8 = .ok (.iconst 0, 1) := by decide +kernel
theorem dX3_beginAnew_9 : decode cX3_beginAnew 9 = .ok (.istore_n 1, 1) := by decide +kernel
theorem dX3_beginAnew_10 : decode cX3_beginAnew 10 = .ok (.iload_n 1, 1) := by decide +kernel
theorem dX3_beginAnew_11 : decode cX3_beginAnew 11 = .ok (.aload_n 0, 1) := by decide +kernel
theorem dX3_beginAnew_12 : decode cX3_beginAnew 12 = .ok (.getfield 33, 3) := by decide +kernel
theorem dX3_beginAnew_15 : decode cX3_beginAnew 15 = .ok (.if_icmp .ge 22, 3) := by decide +kernel
theorem dX3_beginAnew_18 : decode cX3_beginAnew 18 = .ok (.aload_n 0, 1) := by decide +kernel
theorem dX3_beginAnew_19 : decode cX3_beginAnew 19 = .ok (.iload_n 1, 1) := by decide +kernel
theorem dX3_beginAnew_20 : decode cX3_beginAnew 20 = .ok (.invokevirtual 59, 3) := by decide +kernel
theorem dX3_beginAnew_23 : decode cX3_beginAnew 23 = .ok (.invokevirtual 88, 3) := by decide +kernel
theorem dX3_beginAnew_26 : decode cX3_beginAnew 26 = .ok (.aload_n 0, 1) := by decide +kernel
theorem dX3_beginAnew_27 : decode cX3_beginAnew 27 = .ok (.iload_n 1, 1) := by decide +kernel
theorem dX3_beginAnew_28 : decode cX3_beginAnew 28 = .ok (.invokevirtual 70, 3) := by decide +kernel
theorem dX3_beginAnew_31 : decode cX3_beginAnew 31 = .ok (.iinc 1 1, 3) := by decide +kernel
theorem dX3_beginAnew_34 : decode cX3_beginAnew 34 = .ok (.goto (-24), 3) := by decide +kernel
theorem dX3_beginAnew_37 : decode cX3_beginAnew 37 = .ok (.aload_n 0, 1) := by decide +kernel
theorem dX3_beginAnew_38 : decode cX3_beginAnew 38 = .ok (.iconst 1, 1) := by decide +kernel
theorem dX3_beginAnew_39 : decode cX3_beginAnew 39 = .ok (.putfield 37, 3) := by decide +kernel
theorem dX3_beginAnew_42 : decode cX3_beginAnew 42 = .ok (.aload_n 0, 1) := by decide +kernel
theorem dX3_beginAnew_43 : decode cX3_beginAnew 43 = .ok (.invokevirtual 91, 3) := by decide +kernel
theorem dX3_beginAnew_46 : decode cX3_beginAnew 46 = .ok (.aload_n 0, 1) := by decide +kernel
theorem dX3_beginAnew_47 : decode cX3_beginAnew 47 = .ok (.aload_n 0, 1) := by decide +kernel
theorem dX3_beginAnew_48 : decode cX3_beginAnew 48 = .ok (.iconst 0, 1) := by decide +kernel
theorem dX3_beginAnew_49 : decode cX3_beginAnew 49 = .ok (.invokevirtual 94, 3) := by decide +kernel
theorem dX3_beginAnew_52 : decode cX3_beginAnew 52 = .ok (.putfield 40, 3) := by decide +kernel
theorem dX3_beginAnew_55 : decode cX3_beginAnew 55 = .ok (.aload_n 0, 1) := by decide +kernel
theorem dX3_beginAnew_56 : decode cX3_beginAnew 56 = .ok (.getfield 40, 3) := by decide +kernel
theorem dX3_beginAnew_59 : decode cX3_beginAnew 59 = .ok (.iconst (-1), 1) := by decide +kernel
theorem dX3_beginAnew_60 : decode cX3_beginAnew 60 = .ok (.if_icmp .eq 14, 3) := by decide +kernel
theorem dX3_beginAnew_63 : decode cX3_beginAnew 63 = .ok (.aload_n 0, 1) := by decide +kernel
theorem dX3_beginAnew_64 : decode cX3_beginAnew 64 = .ok (.invokevirtual 97, 3) := by decide +kernel
theorem dX3_beginAnew_67 : decode cX3_beginAnew 67 = .ok (.ifCond .ne 7, 3) := by decide +kernel
theorem dX3_beginAnew_70 : decode cX3_beginAnew 70 = .ok (.aload_n 0, 1) := by decide +kernel
theorem dX3_beginAnew_71 : decode cX3_beginAnew 71 = .ok (.invokevirtual 101, 3) := by decide +kernel
theorem dX3_beginAnew_74 : decode cX3_beginAnew 74 = .ok (.return_, 1) := by decide +kernel
theorem dX3_endDelays_0 : decode cX3_endDelays 0 = .ok (.iconst 0, 1) := by decide +kernel
theorem dX3_endDelays_1 : decode cX3_endDelays 1 = .ok (.istore_n 1, 1) := by decide +kernel
theorem dX3_endDelays_2 : decode cX3_endDelays 2 = .ok (.iload_n 1, 1) := by decide +kernel
theorem dX3_endDelays_3 : decode cX3_endDelays 3 = .ok (.aload_n 0, 1) := by decide +kernel
theorem dX3_endDelays_4 : decode cX3_endDelays 4 = .ok (.getfield 33, 3) := by decide +kernel
theorem dX3_endDelays_7 : decode cX3_endDelays 7 = .ok (.if_icmp .ge 18, 3) := by decide +kernel
theorem dX3_endDelays_10 : decode cX3_endDelays 10 = .ok (.aload_n 0, 1) := by decide +kernel
theorem dX3_endDelays_11 : decode cX3_endDelays 11 = .ok (.iload_n 1, 1) := by decide +kernel
theorem dX3_endDelays_12 : decode cX3_endDelays 12 = .ok (.invokevirtual 59, 3) := by decide +kernel
theorem dX3_endDelays_15 : decode cX3_endDelays 15 = .ok (.iconst 0, 1) := by decide +kernel
theorem dX3_endDelays_16 : decode cX3_endDelays 16 = .ok (.putfield 104, 3) := by decide +kernel
theorem dX3_endDelays_19 : decode cX3_endDelays 19 = .ok (.iinc 1 1, 3) := by decide +kernel
theorem dX3_endDelays_22 : decode cX3_endDelays 22 = .ok (.goto (-20), 3) := by decide +kernel
theorem dX3_endDelays_25 : decode cX3_endDelays 25 = .ok (.return_, 1) := by decide +kernel
theorem dX3_nextFrom_0 : decode cX3_nextFrom 0 = .ok (.iload_n 1, 1) := by decide +kernel
theorem dX3_nextFrom_1 : decode cX3_nextFrom 1 = .ok (.istore_n 2, 1) := by decide +kernel
theorem dX3_nextFrom_2 : decode cX3_nextFrom 2 = .ok (.iload_n 2, 1) := by decide +kernel
theorem dX3_nextFrom_3 : decode cX3_nextFrom 3 = .ok (.aload_n 0, 1) := by decide +kernel
theorem dX3_nextFrom_4 : decode cX3_nextFrom 4 = .ok (.getfield 25, 3) := by decide +kernel
theorem dX3_nextFrom_7 : decode cX3_nextFrom 7 = .ok (.getfield 77, 3) := by decide +kernel
theorem dX3_nextFrom_10 : decode cX3_nextFrom 10 = .ok (.if_icmp .ge 45, 3) := by decide +kernel
theorem dX3_nextFrom_13 : decode cX3_nextFrom 13 = .ok (.aload_n 0, 1) := by decide +kernel
theorem dX3_nextFrom_14 : decode cX3_nextFrom 14 = .ok (.aload_n 0, 1) := by decide +kernel
theorem dX3_nextFrom_15 : decode cX3_nextFrom 15 = .ok (.getfield 25, 3) := by decide +kernel
theorem dX3_nextFrom_18 : decode cX3_nextFrom 18 = .ok (.iload_n 2, 1) := by decide +kernel
theorem dX3_nextFrom_19 : decode cX3_nextFrom 19 = .ok (.invokevirtual 80, 3) := by decide +kernel
theorem dX3_nextFrom_22 : decode cX3_nextFrom 22 = .ok (.invokevirtual 59, 3) := by decide +kernel
theorem dX3_nextFrom_25 : decode cX3_nextFrom 25 = .ok (.astore_n 3, 1) := by decide +kernel
theorem dX3_nextFrom_26 : decode cX3_nextFrom 26 = .ok (.aload_n 3, 1) := by decide +kernel
theorem dX3_nextFrom_27 : decode cX3_nextFrom 27 = .ok (.invokevirtual 108, 3) := by decide +kernel
theorem dX3_nextFrom_30 : decode cX3_nextFrom 30 = .ok (.ifCond .ne 19, 3) := by decide +kernel
theorem dX3_nextFrom_33 : decode cX3_nextFrom 33 = .ok (.aload_n 3, 1) := by decide +kernel
theorem dX3_nextFrom_34 : decode cX3_nextFrom 34 = .ok (.getfield 104, 3) := by decide +kernel
theorem dX3_nextFrom_37 : decode cX3_nextFrom 37 = .ok (.ifCond .ne 12, 3) := by decide +kernel
theorem dX3_nextFrom_40 : decode cX3_nextFrom 40 = .ok (.aload_n 0, 1) := by decide +kernel
theorem dX3_nextFrom_41 : decode cX3_nextFrom 41 = .ok (.getfield 25, 3) := by decide +kernel
theorem dX3_nextFrom_44 : decode cX3_nextFrom 44 = .ok (.iload_n 2, 1) := by decide +kernel
theorem dX3_nextFrom_45 : decode cX3_nextFrom 45 = .ok (.invokevirtual 80, 3) := by decide +kernel
theorem dX3_nextFrom_48 : decode cX3_nextFrom 48 = .ok (.ireturn, 1) := by decide +kernel
theorem dX3_nextFrom_49 : decode cX3_nextFrom 49 = .ok (.iinc 2 1, 3) := by decide +kernel
theorem dX3_nextFrom_52 : decode cX3_nextFrom 52 = .ok (.goto (-50), 3) := by decide +kernel
theorem dX3_nextFrom_55 : decode cX3_nextFrom 55 = .ok (.iconst (-1), 1) := by decide +kernel
theorem dX3_nextFrom_56 : decode cX3_nextFrom 56 = .ok (.ireturn, 1) := by decide +kernel
theorem dX3_beginTurn_0 : decode cX3_beginTurn 0 = .ok (.aload_n 0, 1) := by decide +kernel
theorem dX3_beginTurn_1 : decode cX3_beginTurn 1 = .ok (.aload_n 0, 1) := by decide +kernel
theorem dX3_beginTurn_2 : decode cX3_beginTurn 2 = .ok (.getfield 40, 3) := by decide +kernel
theorem dX3_beginTurn_5 : decode cX3_beginTurn 5 = .ok (.invokevirtual 59, 3) := by decide +kernel
theorem dX3_beginTurn_8 : decode cX3_beginTurn 8 = .ok (.astore_n 1, 1) := by decide +kernel
theorem dX3_beginTurn_9 : decode cX3_beginTurn 9 = .ok (.aload_n 0, 1) := by decide +kernel
theorem dX3_beginTurn_10 : decode cX3_beginTurn 10 = .ok (.dup, 1) := by decide +kernel
theorem dX3_beginTurn_11 : decode cX3_beginTurn 11 = .ok (.getfield 43, 3) := by decide +kernel
theorem dX3_beginTurn_14 : decode cX3_beginTurn 14 = .ok (.iconst 1, 1) := by decide +kernel
theorem dX3_beginTurn_15 : decode cX3_beginTurn 15 = .ok (.iadd, 1) := by decide +kernel
theorem dX3_beginTurn_16 : decode cX3_beginTurn 16 = .ok (.putfield 43, 3) := by decide +kernel
theorem dX3_beginTurn_19 : decode cX3_beginTurn 19 = .ok (.aload_n 1, 1) := by decide +kernel
theorem dX3_beginTurn_20 : decode cX3_beginTurn 20 = .ok (.invokevirtual 88, 3) := by decide +kernel
theorem dX3_beginTurn_23 : decode cX3_beginTurn 23 = .ok (.aload_n 1, 1) := by decide +kernel
theorem dX3_beginTurn_24 : decode cX3_beginTurn 24 = .ok (.invokevirtual 111, 3) := by decide +kernel
theorem dX3_beginTurn_27 : decode cX3_beginTurn 27 = .ok (.aload_n 1, 1) := by decide +kernel
theorem dX3_beginTurn_28 : decode cX3_beginTurn 28 = .ok (.invokevirtual 108, 3) := by decide +kernel
theorem dX3_beginTurn_31 : decode cX3_beginTurn 31 = .ok (.ifCond .ne 15, 3) := by decide +kernel
theorem dX3_beginTurn_34 : decode cX3_beginTurn 34 = .ok (.aload_n 1, 1) := by decide +kernel
theorem dX3_beginTurn_35 : decode cX3_beginTurn 35 = .ok (.iconst 0, 1) := by decide +kernel
theorem dX3_beginTurn_36 : decode cX3_beginTurn 36 = .ok (.invokevirtual 114, 3) := by decide +kernel
theorem dX3_beginTurn_39 : decode cX3_beginTurn 39 = .ok (.ifCond .ne 7, 3) := by decide +kernel
theorem dX3_beginTurn_42 : decode cX3_beginTurn 42 = .ok (.iconst 1, 1) := by decide +kernel
theorem dX3_beginTurn_43 : decode cX3_beginTurn 43 = .ok (.goto 4, 3) := by decide +kernel
theorem dX3_beginTurn_46 : decode cX3_beginTurn 46 = .ok (.iconst 0, 1) := by decide +kernel
theorem dX3_beginTurn_47 : decode cX3_beginTurn 47 = .ok (.ireturn, 1) := by decide +kernel
theorem dX3_endTurn_0 : decode cX3_endTurn 0 = .ok (.iconst 0, 1) := by decide +kernel
theorem dX3_endTurn_1 : decode cX3_endTurn 1 = .ok (.istore_n 1, 1) := by decide +kernel
theorem dX3_endTurn_2 : decode cX3_endTurn 2 = .ok (.iload_n 1, 1) := by decide +kernel
theorem dX3_endTurn_3 : decode cX3_endTurn 3 = .ok (.sipush 1000, 3) := by decide +kernel
theorem dX3_endTurn_6 : decode cX3_endTurn 6 = .ok (.if_icmp .ge 52, 3) := by decide +kernel
theorem dX3_endTurn_9 : decode cX3_endTurn 9 = .ok (.aload_n 0, 1) := by decide +kernel
theorem dX3_endTurn_10 : decode cX3_endTurn 10 = .ok (.getfield 40, 3) := by decide +kernel
theorem dX3_endTurn_13 : decode cX3_endTurn 13 = .ok (.iconst (-1), 1) := by decide +kernel
theorem dX3_endTurn_14 : decode cX3_endTurn 14 = .ok (.if_icmp .eq 44, 3) := by decide +kernel
theorem dX3_endTurn_17 : decode cX3_endTurn 17 = .ok (.aload_n 0, 1) := by decide +kernel
theorem dX3_endTurn_18 : decode cX3_endTurn 18 = .ok (.aload_n 0, 1) := by decide +kernel
theorem dX3_endTurn_19 : decode cX3_endTurn 19 = .ok (.getfield 40, 3) := by decide +kernel
theorem dX3_endTurn_22 : decode cX3_endTurn 22 = .ok (.invokevirtual 59, 3) := by decide +kernel
theorem dX3_endTurn_25 : decode cX3_endTurn 25 = .ok (.invokevirtual 117, 3) := by decide +kernel
theorem dX3_endTurn_28 : decode cX3_endTurn 28 = .ok (.aload_n 0, 1) := by decide +kernel
theorem dX3_endTurn_29 : decode cX3_endTurn 29 = .ok (.aload_n 0, 1) := by decide +kernel
theorem dX3_endTurn_30 : decode cX3_endTurn 30 = .ok (.invokevirtual 120, 3) := by decide +kernel
theorem dX3_endTurn_33 : decode cX3_endTurn 33 = .ok (.putfield 40, 3) := by decide +kernel
theorem dX3_endTurn_36 : decode cX3_endTurn 36 = .ok (.aload_n 0, 1) := by decide +kernel
theorem dX3_endTurn_37 : decode cX3_endTurn 37 = .ok (.getfield 40, 3) := by decide +kernel
theorem dX3_endTurn_40 : decode cX3_endTurn 40 = .ok (.iconst (-1), 1) := by decide +kernel
theorem dX3_endTurn_41 : decode cX3_endTurn 41 = .ok (.if_icmp .eq 11, 3) := by decide +kernel
theorem dX3_endTurn_44 : decode cX3_endTurn 44 = .ok (.aload_n 0, 1) := by decide +kernel
theorem dX3_endTurn_45 : decode cX3_endTurn 45 = .ok (.invokevirtual 97, 3) := by decide +kernel
theorem dX3_endTurn_48 : decode cX3_endTurn 48 = .ok (.ifCond .eq 4, 3) := by decide +kernel
theorem dX3_endTurn_51 : decode cX3_endTurn 51 = .ok (.return_, 1) := by decide +kernel
theorem dX3_endTurn_52 : decode cX3_endTurn 52 = .ok (.iinc 1 1, 3) := by decide +kernel
theorem dX3_endTurn_55 : decode cX3_endTurn 55 = .ok (.goto (-53), 3) := by decide +kernel
theorem dX3_endTurn_58 : decode cX3_endTurn 58 = .ok (.return_, 1) := by decide +kernel
theorem dX3_nextTurn_0 : decode cX3_nextTurn 0 = .ok (.aload_n 0, 1) := by decide +kernel
theorem dX3_nextTurn_1 : decode cX3_nextTurn 1 = .ok (.aload_n 0, 1) := by decide +kernel
theorem dX3_nextTurn_2 : decode cX3_nextTurn 2 = .ok (.getfield 25, 3) := by decide +kernel
theorem dX3_nextTurn_5 : decode cX3_nextTurn 5 = .ok (.aload_n 0, 1) := by decide +kernel
theorem dX3_nextTurn_6 : decode cX3_nextTurn 6 = .ok (.getfield 40, 3) := by decide +kernel
theorem dX3_nextTurn_9 : decode cX3_nextTurn 9 = .ok (.invokevirtual 124, 3) := by decide +kernel
theorem dX3_nextTurn_12 : decode cX3_nextTurn 12 = .ok (.iconst 1, 1) := by decide +kernel
theorem dX3_nextTurn_13 : decode cX3_nextTurn 13 = .ok (.iadd, 1) := by decide +kernel
theorem dX3_nextTurn_14 : decode cX3_nextTurn 14 = .ok (.invokevirtual 94, 3) := by decide +kernel
theorem dX3_nextTurn_17 : decode cX3_nextTurn 17 = .ok (.istore_n 1, 1) := by decide +kernel
theorem dX3_nextTurn_18 : decode cX3_nextTurn 18 = .ok (.iload_n 1, 1) := by decide +kernel
theorem dX3_nextTurn_19 : decode cX3_nextTurn 19 = .ok (.iconst (-1), 1) := by decide +kernel
theorem dX3_nextTurn_20 : decode cX3_nextTurn 20 = .ok (.if_icmp .ne 17, 3) := by decide +kernel
theorem dX3_nextTurn_23 : decode cX3_nextTurn 23 = .ok (.aload_n 0, 1) := by decide +kernel
theorem dX3_nextTurn_24 : decode cX3_nextTurn 24 = .ok (.iconst 0, 1) := by decide +kernel
theorem dX3_nextTurn_25 : decode cX3_nextTurn 25 = .ok (.invokevirtual 127, 3) := by decide +kernel
theorem dX3_nextTurn_28 : decode cX3_nextTurn 28 = .ok (.aload_n 0, 1) := by decide +kernel
theorem dX3_nextTurn_29 : decode cX3_nextTurn 29 = .ok (.iconst 1, 1) := by decide +kernel
theorem dX3_nextTurn_30 : decode cX3_nextTurn 30 = .ok (.invokevirtual 127, 3) := by decide +kernel
theorem dX3_nextTurn_33 : decode cX3_nextTurn 33 = .ok (.iadd, 1) := by decide +kernel
theorem dX3_nextTurn_34 : decode cX3_nextTurn 34 = .ok (.ifCond .ne 5, 3) := by decide +kernel
theorem dX3_nextTurn_37 : decode cX3_nextTurn 37 = .ok (.iload_n 1, 1) := by decide +kernel
theorem dX3_nextTurn_38 : decode cX3_nextTurn 38 = .ok (.ireturn, 1) := by decide +kernel
theorem dX3_nextTurn_39 : decode cX3_nextTurn 39 = .ok (.aload_n 0, 1) := by decide +kernel
theorem dX3_nextTurn_40 : decode cX3_nextTurn 40 = .ok (.dup, 1) := by decide +kernel
theorem dX3_nextTurn_41 : decode cX3_nextTurn 41 = .ok (.getfield 37, 3) := by decide +kernel
theorem dX3_nextTurn_44 : decode cX3_nextTurn 44 = .ok (.iconst 1, 1) := by decide +kernel
theorem dX3_nextTurn_45 : decode cX3_nextTurn 45 = .ok (.iadd, 1) := by decide +kernel
theorem dX3_nextTurn_46 : decode cX3_nextTurn 46 = .ok (.putfield 37, 3) := by decide +kernel
theorem dX3_nextTurn_49 : decode cX3_nextTurn 49 = .ok (.aload_n 0, 1) := by decide +kernel
theorem dX3_nextTurn_50 : decode cX3_nextTurn 50 = .ok (.invokevirtual 91, 3) := by decide +kernel
theorem dX3_nextTurn_53 : decode cX3_nextTurn 53 = .ok (.aload_n 0, 1) := by decide +kernel
theorem dX3_nextTurn_54 : decode cX3_nextTurn 54 = .ok (.iconst 0, 1) := by decide +kernel
theorem dX3_nextTurn_55 : decode cX3_nextTurn 55 = .ok (.invokevirtual 94, 3) := by decide +kernel
theorem dX3_nextTurn_58 : decode cX3_nextTurn 58 = .ok (.ireturn, 1) := by decide +kernel
theorem dX3_delayTurn_0 : decode cX3_delayTurn 0 = .ok (.aload_n 0, 1) := by decide +kernel
theorem dX3_delayTurn_1 : decode cX3_delayTurn 1 = .ok (.aload_n 0, 1) := by decide +kernel
theorem dX3_delayTurn_2 : decode cX3_delayTurn 2 = .ok (.getfield 40, 3) := by decide +kernel
theorem dX3_delayTurn_5 : decode cX3_delayTurn 5 = .ok (.invokevirtual 59, 3) := by decide +kernel
theorem dX3_delayTurn_8 : decode cX3_delayTurn 8 = .ok (.iconst 1, 1) := by decide +kernel
theorem dX3_delayTurn_9 : decode cX3_delayTurn 9 = .ok (.putfield 104, 3) := by decide +kernel
theorem dX3_delayTurn_12 : decode cX3_delayTurn 12 = .ok (.aload_n 0, 1) := by decide +kernel
theorem dX3_delayTurn_13 : decode cX3_delayTurn 13 = .ok (.invokevirtual 101, 3) := by decide +kernel
theorem dX3_delayTurn_16 : decode cX3_delayTurn 16 = .ok (.return_, 1) := by decide +kernel
theorem dX3_canBeLetIn_0 : decode cX3_canBeLetIn 0 = .ok (.aload_n 0, 1) := by decide +kernel
theorem dX3_canBeLetIn_1 : decode cX3_canBeLetIn 1 = .ok (.getfield 40, 3) := by decide +kernel
theorem dX3_canBeLetIn_4 : decode cX3_canBeLetIn 4 = .ok (.iconst (-1), 1) := by decide +kernel
theorem dX3_canBeLetIn_5 : decode cX3_canBeLetIn 5 = .ok (.if_icmp .eq 29, 3) := by decide +kernel
theorem dX3_canBeLetIn_8 : decode cX3_canBeLetIn 8 = .ok (.aload_n 0, 1) := by decide +kernel
theorem dX3_canBeLetIn_9 : decode cX3_canBeLetIn 9 = .ok (.iload_n 1, 1) := by decide +kernel
theorem dX3_canBeLetIn_10 : decode cX3_canBeLetIn 10 = .ok (.invokevirtual 59, 3) := by decide +kernel
theorem dX3_canBeLetIn_13 : decode cX3_canBeLetIn 13 = .ok (.getfield 104, 3) := by decide +kernel
theorem dX3_canBeLetIn_16 : decode cX3_canBeLetIn 16 = .ok (.ifCond .eq 18, 3) := by decide +kernel
theorem dX3_canBeLetIn_19 : decode cX3_canBeLetIn 19 = .ok (.aload_n 0, 1) := by decide +kernel
theorem dX3_canBeLetIn_20 : decode cX3_canBeLetIn 20 = .ok (.iload_n 1, 1) := by decide +kernel
theorem dX3_canBeLetIn_21 : decode cX3_canBeLetIn 21 = .ok (.invokevirtual 59, 3) := by decide +kernel
theorem dX3_canBeLetIn_24 : decode cX3_canBeLetIn 24 = .ok (.invokevirtual 108, 3) := by decide +kernel
theorem dX3_canBeLetIn_27 : decode cX3_canBeLetIn 27 = .ok (.ifCond .ne 7, 3) := by decide +kernel
theorem dX3_canBeLetIn_30 : decode cX3_canBeLetIn 30 = .ok (.iconst 1, 1) := by decide +kernel
theorem dX3_canBeLetIn_31 : decode cX3_canBeLetIn 31 = .ok (.goto 4, 3) := by decide +kernel
theorem dX3_canBeLetIn_34 : decode cX3_canBeLetIn 34 = .ok (.iconst 0, 1) := by decide +kernel
theorem dX3_canBeLetIn_35 : decode cX3_canBeLetIn 35 = .ok (.ireturn, 1) := by decide +kernel
theorem dX3_letIn_0 : decode cX3_letIn 0 = .ok (.aload_n 0, 1) := by decide +kernel
theorem dX3_letIn_1 : decode cX3_letIn 1 = .ok (.iload_n 1, 1) := by decide +kernel
theorem dX3_letIn_2 : decode cX3_letIn 2 = .ok (.invokevirtual 59, 3) := by decide +kernel
theorem dX3_letIn_5 : decode cX3_letIn 5 = .ok (.astore_n 2, 1) := by decide +kernel
theorem dX3_letIn_6 : decode cX3_letIn 6 = .ok (.aload_n 0, 1) := by decide +kernel
theorem dX3_letIn_7 : decode cX3_letIn 7 = .ok (.getfield 25, 3) := by decide +kernel
theorem dX3_letIn_10 : decode cX3_letIn 10 = .ok (.iload_n 1, 1) := by decide +kernel
theorem dX3_letIn_11 : decode cX3_letIn 11 = .ok (.aload_n 0, 1) := by decide +kernel
theorem dX3_letIn_12 : decode cX3_letIn 12 = .ok (.getfield 40, 3) := by decide +kernel
theorem dX3_letIn_15 : decode cX3_letIn 15 = .ok (.invokevirtual 130, 3) := by decide +kernel
theorem dX3_letIn_18 : decode cX3_letIn 18 = .ok (.aload_n 2, 1) := by decide +kernel
theorem dX3_letIn_19 : decode cX3_letIn 19 = .ok (.aload_n 0, 1) := by decide +kernel
theorem dX3_letIn_20 : decode cX3_letIn 20 = .ok (.aload_n 0, 1) := by decide +kernel
theorem dX3_letIn_21 : decode cX3_letIn 21 = .ok (.getfield 40, 3) := by decide +kernel
theorem dX3_letIn_24 : decode cX3_letIn 24 = .ok (.invokevirtual 59, 3) := by decide +kernel
theorem dX3_letIn_27 : decode cX3_letIn 27 = .ok (.getfield 74, 3) := by decide +kernel
theorem dX3_letIn_30 : decode cX3_letIn 30 = .ok (.putfield 74, 3) := by decide +kernel
theorem dX3_letIn_33 : decode cX3_letIn 33 = .ok (.aload_n 2, 1) := by decide +kernel
theorem dX3_letIn_34 : decode cX3_letIn 34 = .ok (.iconst 0, 1) := by decide +kernel
theorem dX3_letIn_35 : decode cX3_letIn 35 = .ok (.putfield 104, 3) := by decide +kernel
theorem dX3_letIn_38 : decode cX3_letIn 38 = .ok (.aload_n 2, 1) := by decide +kernel
theorem dX3_letIn_39 : decode cX3_letIn 39 = .ok (.getfield 74, 3) := by decide +kernel
theorem dX3_letIn_42 : decode cX3_letIn 42 = .ok (.ireturn, 1) := by decide +kernel
theorem dX3_readyAct_0 : decode cX3_readyAct 0 = .ok (.aload_n 0, 1) := by decide +kernel
theorem dX3_readyAct_1 : decode cX3_readyAct 1 = .ok (.aload_n 0, 1) := by decide +kernel
theorem dX3_readyAct_2 : decode cX3_readyAct 2 = .ok (.getfield 40, 3) := by decide +kernel
theorem dX3_readyAct_5 : decode cX3_readyAct 5 = .ok (.invokevirtual 59, 3) := by decide +kernel
theorem dX3_readyAct_8 : decode cX3_readyAct 8 = .ok (.astore 5, 2) := by decide +kernel
theorem dX3_readyAct_10 : decode cX3_readyAct 10 = .ok (.aload 5, 2) := by decide +kernel
theorem dX3_readyAct_12 : decode cX3_readyAct 12 = .ok (.iload_n 1, 1) := by decide +kernel
theorem dX3_readyAct_13 : decode cX3_readyAct 13 = .ok (.putfield 133, 3) := by decide +kernel
theorem dX3_readyAct_16 : decode cX3_readyAct 16 = .ok (.aload 5, 2) := by decide +kernel
theorem dX3_readyAct_18 : decode cX3_readyAct 18 = .ok (.iload_n 2, 1) := by decide +kernel
theorem dX3_readyAct_19 : decode cX3_readyAct 19 = .ok (.putfield 136, 3) := by decide +kernel
theorem dX3_readyAct_22 : decode cX3_readyAct 22 = .ok (.aload 5, 2) := by decide +kernel
theorem dX3_readyAct_24 : decode cX3_readyAct 24 = .ok (.iload_n 3, 1) := by decide +kernel
theorem dX3_readyAct_25 : decode cX3_readyAct 25 = .ok (.putfield 139, 3) := by decide +kernel
theorem dX3_readyAct_28 : decode cX3_readyAct 28 = .ok (.aload 5, 2) := by decide +kernel
theorem dX3_readyAct_30 : decode cX3_readyAct 30 = .ok (.iload 4, 2) := by decide +kernel
theorem dX3_readyAct_32 : decode cX3_readyAct 32 = .ok (.putfield 142, 3) := by decide +kernel
theorem dX3_readyAct_35 : decode cX3_readyAct 35 = .ok (.aload_n 0, 1) := by decide +kernel
theorem dX3_readyAct_36 : decode cX3_readyAct 36 = .ok (.invokevirtual 101, 3) := by decide +kernel
theorem dX3_readyAct_39 : decode cX3_readyAct 39 = .ok (.return_, 1) := by decide +kernel
theorem dX3_isPossible_0 : decode cX3_isPossible 0 = .ok (.aload_n 0, 1) := by decide +kernel
theorem dX3_isPossible_1 : decode cX3_isPossible 1 = .ok (.iload_n 1, 1) := by decide +kernel
theorem dX3_isPossible_2 : decode cX3_isPossible 2 = .ok (.invokevirtual 59, 3) := by decide +kernel
theorem dX3_isPossible_5 : decode cX3_isPossible 5 = .ok (.astore 4, 2) := by decide +kernel
theorem dX3_isPossible_7 : decode cX3_isPossible 7 = .ok (.aload 4, 2) := by decide +kernel
theorem dX3_isPossible_9 : decode cX3_isPossible 9 = .ok (.invokevirtual 108, 3) := by decide +kernel
theorem dX3_isPossible_12 : decode cX3_isPossible 12 = .ok (.ifCond .eq 5, 3) := by decide +kernel
theorem dX3_isPossible_15 : decode cX3_isPossible 15 = .ok (.iconst 0, 1) := by decide +kernel
theorem dX3_isPossible_16 : decode cX3_isPossible 16 = .ok (.ireturn, 1) := by decide +kernel
theorem dX3_isPossible_17 : decode cX3_isPossible 17 = .ok (.iload_n 2, 1) := by decide +kernel
theorem dX3_isPossible_18 : decode cX3_isPossible 18 = .ok (.iconst 1, 1) := by decide +kernel
theorem dX3_isPossible_19 : decode cX3_isPossible 19 = .ok (.if_icmp .ne 50, 3) := by decide +kernel
theorem dX3_isPossible_22 : decode cX3_isPossible 22 = .ok (.aload 4, 2) := by decide +kernel
theorem dX3_isPossible_24 : decode cX3_isPossible 24 = .ok (.iconst 1, 1) := by decide +kernel
theorem dX3_isPossible_25 : decode cX3_isPossible 25 = .ok (.invokevirtual 114, 3) := by decide +kernel
theorem dX3_isPossible_28 : decode cX3_isPossible 28 = .ok (.ifCond .le 7, 3) := by decide +kernel
theorem dX3_isPossible_31 : decode cX3_isPossible 31 = .ok (.iconst 1, 1) := by decide +kernel
theorem dX3_isPossible_32 : decode cX3_isPossible 32 = .ok (.goto 4, 3) := by decide +kernel
theorem dX3_isPossible_35 : decode cX3_isPossible 35 = .ok (.iconst 3, 1) := by decide +kernel
theorem dX3_isPossible_36 : decode cX3_isPossible 36 = .ok (.istore 5, 2) := by decide +kernel
theorem dX3_isPossible_38 : decode cX3_isPossible 38 = .ok (.iload_n 3, 1) := by decide +kernel
theorem dX3_isPossible_39 : decode cX3_isPossible 39 = .ok (.ifCond .lt 28, 3) := by decide +kernel
theorem dX3_isPossible_42 : decode cX3_isPossible 42 = .ok (.iload_n 3, 1) := by decide +kernel
theorem dX3_isPossible_43 : decode cX3_isPossible 43 = .ok (.bipush 9, 2) := by decide +kernel
theorem dX3_isPossible_45 : decode cX3_isPossible 45 = .ok (.if_icmp .gt 22, 3) := by decide +kernel
theorem dX3_isPossible_48 : decode cX3_isPossible 48 = .ok (.iload_n 3, 1) := by decide +kernel
theorem dX3_isPossible_49 : decode cX3_isPossible 49 = .ok (.aload 4, 2) := by decide +kernel
theorem dX3_isPossible_51 : decode cX3_isPossible 51 = .ok (.getfield 145, 3) := by decide +kernel
theorem dX3_isPossible_54 : decode cX3_isPossible 54 = .ok (.isub, 1) := by decide +kernel
theorem dX3_isPossible_55 : decode cX3_isPossible 55 = .ok (.invokestatic 148, 3) := by decide +kernel
theorem dX3_isPossible_58 : decode cX3_isPossible 58 = .ok (.iload 5, 2) := by decide +kernel
theorem dX3_isPossible_60 : decode cX3_isPossible 60 = .ok (.if_icmp .gt 7, 3) := by decide +kernel
theorem dX3_isPossible_63 : decode cX3_isPossible 63 = .ok (.iconst 1, 1) := by decide +kernel
theorem dX3_isPossible_64 : decode cX3_isPossible 64 = .ok (.goto 4, 3) := by decide +kernel
theorem dX3_isPossible_67 : decode cX3_isPossible 67 = .ok (.iconst 0, 1) := by decide +kernel
theorem dX3_isPossible_68 : decode cX3_isPossible 68 = .ok (.ireturn, 1) := by decide +kernel
theorem dX3_isPossible_69 : decode cX3_isPossible 69 = .ok (.aload_n 0, 1) := by decide +kernel
theorem dX3_isPossible_70 : decode cX3_isPossible 70 = .ok (.iload_n 3, 1) := by decide +kernel
theorem dX3_isPossible_71 : decode cX3_isPossible 71 = .ok (.invokevirtual 59, 3) := by decide +kernel
theorem dX3_isPossible_74 : decode cX3_isPossible 74 = .ok (.astore 5, 2) := by decide +kernel
theorem dX3_isPossible_76 : decode cX3_isPossible 76 = .ok (.aload 5, 2) := by decide +kernel
theorem dX3_isPossible_78 : decode cX3_isPossible 78 = .ok (.invokevirtual 108, 3) := by decide +kernel
theorem dX3_isPossible_81 : decode cX3_isPossible 81 = .ok (.ifCond .ne 8, 3) := by decide +kernel
theorem dX3_isPossible_84 : decode cX3_isPossible 84 = .ok (.iload_n 3, 1) := by decide +kernel
theorem dX3_isPossible_85 : decode cX3_isPossible 85 = .ok (.iload_n 1, 1) := by decide +kernel
theorem dX3_isPossible_86 : decode cX3_isPossible 86 = .ok (.if_icmp .ne 5, 3) := by decide +kernel
theorem dX3_isPossible_89 : decode cX3_isPossible 89 = .ok (.iconst 0, 1) := by decide +kernel
theorem dX3_isPossible_90 : decode cX3_isPossible 90 = .ok (.ireturn, 1) := by decide +kernel
theorem dX3_isPossible_91 : decode cX3_isPossible 91 = .ok (.aload 5, 2) := by decide +kernel
theorem dX3_isPossible_93 : decode cX3_isPossible 93 = .ok (.getfield 145, 3) := by decide +kernel
theorem dX3_isPossible_96 : decode cX3_isPossible 96 = .ok (.aload 4, 2) := by decide +kernel
theorem dX3_isPossible_98 : decode cX3_isPossible 98 = .ok (.getfield 145, 3) := by decide +kernel
theorem dX3_isPossible_101 : decode cX3_isPossible 101 = .ok (.isub, 1) := by decide +kernel
theorem dX3_isPossible_102 : decode cX3_isPossible 102 = .ok (.invokestatic 148, 3) := by decide +kernel
theorem dX3_isPossible_105 : decode cX3_isPossible 105 = .ok (.iconst 2, 1) := by decide +kernel
theorem dX3_isPossible_106 : decode cX3_isPossible 106 = .ok (.if_icmp .gt 7, 3) := by decide +kernel
theorem dX3_isPossible_109 : decode cX3_isPossible 109 = .ok (.iconst 1, 1) := by decide +kernel
theorem dX3_isPossible_110 : decode cX3_isPossible 110 = .ok (.goto 4, 3) := by decide +kernel
theorem dX3_isPossible_113 : decode cX3_isPossible 113 = .ok (.iconst 0, 1) := by decide +kernel
theorem dX3_isPossible_114 : decode cX3_isPossible 114 = .ok (.istore 6, 2) := by decide +kernel
theorem dX3_isPossible_116 : decode cX3_isPossible 116 = .ok (.iload_n 2, 1) := by decide +kernel
theorem dX3_isPossible_117 : decode cX3_isPossible 117 = .ok (.tableswitch 77 0 3 #[31, 77, 34, 58], 31) := by decide +kernel
theorem dX3_isPossible_148 : decode cX3_isPossible 148 = .ok (.iload 6, 2) := by decide +kernel
theorem dX3_isPossible_150 : decode cX3_isPossible 150 = .ok (.ireturn, 1) := by decide +kernel
theorem dX3_isPossible_151 : decode cX3_isPossible 151 = .ok (.iload 6, 2) := by decide +kernel
theorem dX3_isPossible_153 : decode cX3_isPossible 153 = .ok (.ifCond .eq 20, 3) := by decide +kernel
theorem dX3_isPossible_156 : decode cX3_isPossible 156 = .ok (.aload 5, 2) := by decide +kernel
theorem dX3_isPossible_158 : decode cX3_isPossible 158 = .ok (.getfield 63, 3) := by decide +kernel
theorem dX3_isPossible_161 : decode cX3_isPossible 161 = .ok (.aload 4, 2) := by decide +kernel
theorem dX3_isPossible_163 : decode cX3_isPossible 163 = .ok (.getfield 63, 3) := by decide +kernel
theorem dX3_isPossible_166 : decode cX3_isPossible 166 = .ok (.if_icmp .ne 7, 3) := by decide +kernel
theorem dX3_isPossible_169 : decode cX3_isPossible 169 = .ok (.iconst 1, 1) := by decide +kernel
theorem dX3_isPossible_170 : decode cX3_isPossible 170 = .ok (.goto 4, 3) := by decide +kernel
theorem dX3_isPossible_173 : decode cX3_isPossible 173 = .ok (.iconst 0, 1) := by decide +kernel
theorem dX3_isPossible_174 : decode cX3_isPossible 174 = .ok (.ireturn, 1) := by decide +kernel
theorem dX3_isPossible_175 : decode cX3_isPossible 175 = .ok (.aload 5, 2) := by decide +kernel
theorem dX3_isPossible_177 : decode cX3_isPossible 177 = .ok (.getfield 63, 3) := by decide +kernel
theorem dX3_isPossible_180 : decode cX3_isPossible 180 = .ok (.aload 4, 2) := by decide +kernel
theorem dX3_isPossible_182 : decode cX3_isPossible 182 = .ok (.getfield 63, 3) := by decide +kernel
theorem dX3_isPossible_185 : decode cX3_isPossible 185 = .ok (.if_icmp .eq 7, 3) := by decide +kernel
theorem dX3_isPossible_188 : decode cX3_isPossible 188 = .ok (.iconst 1, 1) := by decide +kernel
theorem dX3_isPossible_189 : decode cX3_isPossible 189 = .ok (.goto 4, 3) := by decide +kernel
theorem dX3_isPossible_192 : decode cX3_isPossible 192 = .ok (.iconst 0, 1) := by decide +kernel
theorem dX3_isPossible_193 : decode cX3_isPossible 193 = .ok (.ireturn, 1) := by decide +kernel
theorem dX3_isPossible_194 : decode cX3_isPossible 194 = .ok (.iconst 0, 1) := by decide +kernel
theorem dX3_isPossible_195 : decode cX3_isPossible 195 = .ok (.ireturn, 1) := by decide +kernel
theorem dX3_act_0 : decode cX3_act 0 = .ok (.aload_n 0, 1) := by decide +kernel
theorem dX3_act_1 : decode cX3_act 1 = .ok (.iload_n 1, 1) := by decide +kernel
theorem dX3_act_2 : decode cX3_act 2 = .ok (.invokevirtual 153, 3) := by decide +kernel
theorem dX3_act_5 : decode cX3_act 5 = .ok (.aload_n 0, 1) := by decide +kernel
theorem dX3_act_6 : decode cX3_act 6 = .ok (.aload_n 0, 1) := by decide +kernel
theorem dX3_act_7 : decode cX3_act 7 = .ok (.getfield 40, 3) := by decide +kernel
theorem dX3_act_10 : decode cX3_act 10 = .ok (.iload_n 1, 1) := by decide +kernel
theorem dX3_act_11 : decode cX3_act 11 = .ok (.iload_n 2, 1) := by decide +kernel
theorem dX3_act_12 : decode cX3_act 12 = .ok (.iload_n 3, 1) := by decide +kernel
theorem dX3_act_13 : decode cX3_act 13 = .ok (.iload 4, 2) := by decide +kernel
theorem dX3_act_15 : decode cX3_act 15 = .ok (.invokevirtual 156, 3) := by decide +kernel
theorem dX3_act_18 : decode cX3_act 18 = .ok (.istore 5, 2) := by decide +kernel
theorem dX3_act_20 : decode cX3_act 20 = .ok (.aload_n 0, 1) := by decide +kernel
theorem dX3_act_21 : decode cX3_act 21 = .ok (.invokevirtual 101, 3) := by decide +kernel
theorem dX3_act_24 : decode cX3_act 24 = .ok (.iload 5, 2) := by decide +kernel
theorem dX3_act_26 : decode cX3_act 26 = .ok (.ireturn, 1) := by decide +kernel
theorem dX3_attempt_0 : decode cX3_attempt 0 = .ok (.aload_n 0, 1) := by decide +kernel
theorem dX3_attempt_1 : decode cX3_attempt 1 = .ok (.iload_n 1, 1) := by decide +kernel
theorem dX3_attempt_2 : decode cX3_attempt 2 = .ok (.iload_n 2, 1) := by decide +kernel
theorem dX3_attempt_3 : decode cX3_attempt 3 = .ok (.iload_n 3, 1) := by decide +kernel
theorem dX3_attempt_4 : decode cX3_attempt 4 = .ok (.invokevirtual 160, 3) := by decide +kernel
theorem dX3_attempt_7 : decode cX3_attempt 7 = .ok (.ifCond .ne 15, 3) := by decide +kernel
theorem dX3_attempt_10 : decode cX3_attempt 10 = .ok (.aload_n 0, 1) := by decide +kernel
theorem dX3_attempt_11 : decode cX3_attempt 11 = .ok (.dup, 1) := by decide +kernel
theorem dX3_attempt_12 : decode cX3_attempt 12 = .ok (.getfield 49, 3) := by decide +kernel
theorem dX3_attempt_15 : decode cX3_attempt 15 = .ok (.iconst 1, 1) := by decide +kernel
theorem dX3_attempt_16 : decode cX3_attempt 16 = .ok (.iadd, 1) := by decide +kernel
theorem dX3_attempt_17 : decode cX3_attempt 17 = .ok (.putfield 49, 3) := by decide +kernel
theorem dX3_attempt_20 : decode cX3_attempt 20 = .ok (.iconst (-1), 1) := by decide +kernel
theorem dX3_attempt_21 : decode cX3_attempt 21 = .ok (.ireturn, 1) := by decide +kernel
theorem dX3_attempt_22 : decode cX3_attempt 22 = .ok (.aload_n 0, 1) := by decide +kernel
theorem dX3_attempt_23 : decode cX3_attempt 23 = .ok (.iload_n 1, 1) := by decide +kernel
theorem dX3_attempt_24 : decode cX3_attempt 24 = .ok (.invokevirtual 59, 3) := by decide +kernel
theorem dX3_attempt_27 : decode cX3_attempt 27 = .ok (.astore 6, 2) := by decide +kernel
theorem dX3_attempt_29 : decode cX3_attempt 29 = .ok (.aload_n 0, 1) := by decide +kernel
theorem dX3_attempt_30 : decode cX3_attempt 30 = .ok (.dup, 1) := by decide +kernel
theorem dX3_attempt_31 : decode cX3_attempt 31 = .ok (.getfield 46, 3) := by decide +kernel
theorem dX3_attempt_34 : decode cX3_attempt 34 = .ok (.iconst 1, 1) := by decide +kernel
theorem dX3_attempt_35 : decode cX3_attempt 35 = .ok (.iadd, 1) := by decide +kernel
theorem dX3_attempt_36 : decode cX3_attempt 36 = .ok (.putfield 46, 3) := by decide +kernel
theorem dX3_attempt_39 : decode cX3_attempt 39 = .ok (.aload 6, 2) := by decide +kernel
theorem dX3_attempt_41 : decode cX3_attempt 41 = .ok (.dup, 1) := by decide +kernel
theorem dX3_attempt_42 : decode cX3_attempt 42 = .ok (.getfield 164, 3) := by decide +kernel
theorem dX3_attempt_45 : decode cX3_attempt 45 = .ok (.iconst 1, 1) := by decide +kernel
theorem dX3_attempt_46 : decode cX3_attempt 46 = .ok (.iadd, 1) := by decide +kernel
theorem dX3_attempt_47 : decode cX3_attempt 47 = .ok (.putfield 164, 3) := by decide +kernel
theorem dX3_attempt_50 : decode cX3_attempt 50 = .ok (.iload_n 2, 1) := by decide +kernel
theorem dX3_attempt_51 : decode cX3_attempt 51 = .ok (.tableswitch 105 0 2 #[25, 67, 88], 25) := by decide +kernel
theorem dX3_attempt_76 : decode cX3_attempt 76 = .ok (.aload 6, 2) := by decide +kernel
theorem dX3_attempt_78 : decode cX3_attempt 78 = .ok (.aload_n 0, 1) := by decide +kernel
theorem dX3_attempt_79 : decode cX3_attempt 79 = .ok (.iload_n 3, 1) := by decide +kernel
theorem dX3_attempt_80 : decode cX3_attempt 80 = .ok (.invokevirtual 59, 3) := by decide +kernel
theorem dX3_attempt_83 : decode cX3_attempt 83 = .ok (.invokevirtual 165, 3) := by decide +kernel
theorem dX3_attempt_86 : decode cX3_attempt 86 = .ok (.istore 7, 2) := by decide +kernel
theorem dX3_attempt_88 : decode cX3_attempt 88 = .ok (.aload_n 0, 1) := by decide +kernel
theorem dX3_attempt_89 : decode cX3_attempt 89 = .ok (.iload_n 3, 1) := by decide +kernel
theorem dX3_attempt_90 : decode cX3_attempt 90 = .ok (.invokevirtual 59, 3) := by decide +kernel
theorem dX3_attempt_93 : decode cX3_attempt 93 = .ok (.dup, 1) := by decide +kernel
theorem dX3_attempt_94 : decode cX3_attempt 94 = .ok (.getfield 169, 3) := by decide +kernel
theorem dX3_attempt_97 : decode cX3_attempt 97 = .ok (.iload 7, 2) := by decide +kernel
theorem dX3_attempt_99 : decode cX3_attempt 99 = .ok (.isub, 1) := by decide +kernel
theorem dX3_attempt_100 : decode cX3_attempt 100 = .ok (.putfield 169, 3) := by decide +kernel
theorem dX3_attempt_103 : decode cX3_attempt 103 = .ok (.aload 6, 2) := by decide +kernel
theorem dX3_attempt_105 : decode cX3_attempt 105 = .ok (.dup, 1) := by decide +kernel
theorem dX3_attempt_106 : decode cX3_attempt 106 = .ok (.getfield 172, 3) := by decide +kernel
theorem dX3_attempt_109 : decode cX3_attempt 109 = .ok (.iload 7, 2) := by decide +kernel
theorem dX3_attempt_111 : decode cX3_attempt 111 = .ok (.iadd, 1) := by decide +kernel
theorem dX3_attempt_112 : decode cX3_attempt 112 = .ok (.putfield 172, 3) := by decide +kernel
theorem dX3_attempt_115 : decode cX3_attempt 115 = .ok (.iload 7, 2) := by decide +kernel
theorem dX3_attempt_117 : decode cX3_attempt 117 = .ok (.ireturn, 1) := by decide +kernel
theorem dX3_attempt_118 : decode cX3_attempt 118 = .ok (.iload_n 3, 1) := by decide +kernel
theorem dX3_attempt_119 : decode cX3_attempt 119 = .ok (.aload 6, 2) := by decide +kernel
theorem dX3_attempt_121 : decode cX3_attempt 121 = .ok (.getfield 145, 3) := by decide +kernel
theorem dX3_attempt_124 : decode cX3_attempt 124 = .ok (.isub, 1) := by decide +kernel
theorem dX3_attempt_125 : decode cX3_attempt 125 = .ok (.invokestatic 148, 3) := by decide +kernel
theorem dX3_attempt_128 : decode cX3_attempt 128 = .ok (.istore 8, 2) := by decide +kernel
theorem dX3_attempt_130 : decode cX3_attempt 130 = .ok (.aload 6, 2) := by decide +kernel
theorem dX3_attempt_132 : decode cX3_attempt 132 = .ok (.iload_n 3, 1) := by decide +kernel
theorem dX3_attempt_133 : decode cX3_attempt 133 = .ok (.putfield 145, 3) := by decide +kernel
theorem dX3_attempt_136 : decode cX3_attempt 136 = .ok (.iload 8, 2) := by decide +kernel
theorem dX3_attempt_138 : decode cX3_attempt 138 = .ok (.ireturn, 1) := by decide +kernel
theorem dX3_attempt_139 : decode cX3_attempt 139 = .ok (.aload_n 0, 1) := by decide +kernel
theorem dX3_attempt_140 : decode cX3_attempt 140 = .ok (.iload_n 3, 1) := by decide +kernel
theorem dX3_attempt_141 : decode cX3_attempt 141 = .ok (.invokevirtual 59, 3) := by decide +kernel
theorem dX3_attempt_144 : decode cX3_attempt 144 = .ok (.invokevirtual 175, 3) := by decide +kernel
theorem dX3_attempt_147 : decode cX3_attempt 147 = .ok (.aload_n 0, 1) := by decide +kernel
theorem dX3_attempt_148 : decode cX3_attempt 148 = .ok (.iload_n 3, 1) := by decide +kernel
theorem dX3_attempt_149 : decode cX3_attempt 149 = .ok (.invokevirtual 59, 3) := by decide +kernel
theorem dX3_attempt_152 : decode cX3_attempt 152 = .ok (.getfield 169, 3) := by decide +kernel
theorem dX3_attempt_155 : decode cX3_attempt 155 = .ok (.ireturn, 1) := by decide +kernel
theorem dX3_attempt_156 : decode cX3_attempt 156 = .ok (.aload_n 0, 1) := by decide +kernel
theorem dX3_attempt_157 : decode cX3_attempt 157 = .ok (.iload_n 3, 1) := by decide +kernel
theorem dX3_attempt_158 : decode cX3_attempt 158 = .ok (.invokevirtual 59, 3) := by decide +kernel
theorem dX3_attempt_161 : decode cX3_attempt 161 = .ok (.iload 4, 2) := by decide +kernel
theorem dX3_attempt_163 : decode cX3_attempt 163 = .ok (.iload 5, 2) := by decide +kernel
theorem dX3_attempt_165 : decode cX3_attempt 165 = .ok (.invokevirtual 178, 3) := by decide +kernel
theorem dX3_attempt_168 : decode cX3_attempt 168 = .ok (.ireturn, 1) := by decide +kernel
theorem dX3_isSetOff_0 : decode cX3_isSetOff 0 = .ok (.aload_n 1, 1) := by decide +kernel
theorem dX3_isSetOff_1 : decode cX3_isSetOff 1 = .ok (.invokevirtual 108, 3) := by decide +kernel
theorem dX3_isSetOff_4 : decode cX3_isSetOff 4 = .ok (.ifCond .ne 18, 3) := by decide +kernel
theorem dX3_isSetOff_7 : decode cX3_isSetOff 7 = .ok (.aload_n 1, 1) := by decide +kernel
theorem dX3_isSetOff_8 : decode cX3_isSetOff 8 = .ok (.invokevirtual 182, 3) := by decide +kernel
theorem dX3_isSetOff_11 : decode cX3_isSetOff 11 = .ok (.ifCond .eq 11, 3) := by decide +kernel
theorem dX3_isSetOff_14 : decode cX3_isSetOff 14 = .ok (.aload_n 1, 1) := by decide +kernel
theorem dX3_isSetOff_15 : decode cX3_isSetOff 15 = .ok (.getfield 142, 3) := by decide +kernel
theorem dX3_isSetOff_18 : decode cX3_isSetOff 18 = .ok (.iload_n 2, 1) := by decide +kernel
theorem dX3_isSetOff_19 : decode cX3_isSetOff 19 = .ok (.if_icmp .eq 5, 3) := by decide +kernel
theorem dX3_isSetOff_22 : decode cX3_isSetOff 22 = .ok (.iconst 0, 1) := by decide +kernel
theorem dX3_isSetOff_23 : decode cX3_isSetOff 23 = .ok (.ireturn, 1) := by decide +kernel
theorem dX3_isSetOff_24 : decode cX3_isSetOff 24 = .ok (.aload_n 1, 1) := by decide +kernel
theorem dX3_isSetOff_25 : decode cX3_isSetOff 25 = .ok (.getfield 139, 3) := by decide +kernel
theorem dX3_isSetOff_28 : decode cX3_isSetOff 28 = .ok (.iconst (-1), 1) := by decide +kernel
theorem dX3_isSetOff_29 : decode cX3_isSetOff 29 = .ok (.if_icmp .ne 27, 3) := by decide +kernel
theorem dX3_isSetOff_32 : decode cX3_isSetOff 32 = .ok (.aload_n 1, 1) := by decide +kernel
theorem dX3_isSetOff_33 : decode cX3_isSetOff 33 = .ok (.getfield 63, 3) := by decide +kernel
theorem dX3_isSetOff_36 : decode cX3_isSetOff 36 = .ok (.aload_n 0, 1) := by decide +kernel
theorem dX3_isSetOff_37 : decode cX3_isSetOff 37 = .ok (.aload_n 0, 1) := by decide +kernel
theorem dX3_isSetOff_38 : decode cX3_isSetOff 38 = .ok (.getfield 40, 3) := by decide +kernel
theorem dX3_isSetOff_41 : decode cX3_isSetOff 41 = .ok (.invokevirtual 59, 3) := by decide +kernel
theorem dX3_isSetOff_44 : decode cX3_isSetOff 44 = .ok (.getfield 63, 3) := by decide +kernel
theorem dX3_isSetOff_47 : decode cX3_isSetOff 47 = .ok (.if_icmp .eq 7, 3) := by decide +kernel
theorem dX3_isSetOff_50 : decode cX3_isSetOff 50 = .ok (.iconst 1, 1) := by decide +kernel
theorem dX3_isSetOff_51 : decode cX3_isSetOff 51 = .ok (.goto 4, 3) := by decide +kernel
theorem dX3_isSetOff_54 : decode cX3_isSetOff 54 = .ok (.iconst 0, 1) := by decide +kernel
theorem dX3_isSetOff_55 : decode cX3_isSetOff 55 = .ok (.ireturn, 1) := by decide +kernel
theorem dX3_isSetOff_56 : decode cX3_isSetOff 56 = .ok (.aload_n 1, 1) := by decide +kernel
theorem dX3_isSetOff_57 : decode cX3_isSetOff 57 = .ok (.getfield 139, 3) := by decide +kernel
theorem dX3_isSetOff_60 : decode cX3_isSetOff 60 = .ok (.aload_n 0, 1) := by decide +kernel
theorem dX3_isSetOff_61 : decode cX3_isSetOff 61 = .ok (.getfield 40, 3) := by decide +kernel
theorem dX3_isSetOff_64 : decode cX3_isSetOff 64 = .ok (.if_icmp .ne 7, 3) := by decide +kernel
theorem dX3_isSetOff_67 : decode cX3_isSetOff 67 = .ok (.iconst 1, 1) := by decide +kernel
theorem dX3_isSetOff_68 : decode cX3_isSetOff 68 = .ok (.goto 4, 3) := by decide +kernel
theorem dX3_isSetOff_71 : decode cX3_isSetOff 71 = .ok (.iconst 0, 1) := by decide +kernel
theorem dX3_isSetOff_72 : decode cX3_isSetOff 72 = .ok (.ireturn, 1) := by decide +kernel
theorem dX3_numberSetOff_0 : decode cX3_numberSetOff 0 = .ok (.iconst 0, 1) := by decide +kernel
theorem dX3_numberSetOff_1 : decode cX3_numberSetOff 1 = .ok (.istore_n 2, 1) := by decide +kernel
theorem dX3_numberSetOff_2 : decode cX3_numberSetOff 2 = .ok (.iconst 0, 1) := by decide +kernel
theorem dX3_numberSetOff_3 : decode cX3_numberSetOff 3 = .ok (.istore_n 3, 1) := by decide +kernel
theorem dX3_numberSetOff_4 : decode cX3_numberSetOff 4 = .ok (.iload_n 3, 1) := by decide +kernel
theorem dX3_numberSetOff_5 : decode cX3_numberSetOff 5 = .ok (.aload_n 0, 1) := by decide +kernel
theorem dX3_numberSetOff_6 : decode cX3_numberSetOff 6 = .ok (.getfield 33, 3) := by decide +kernel
theorem dX3_numberSetOff_9 : decode cX3_numberSetOff 9 = .ok (.if_icmp .ge 25, 3) := by decide +kernel
theorem dX3_numberSetOff_12 : decode cX3_numberSetOff 12 = .ok (.aload_n 0, 1) := by decide +kernel
theorem dX3_numberSetOff_13 : decode cX3_numberSetOff 13 = .ok (.aload_n 0, 1) := by decide +kernel
theorem dX3_numberSetOff_14 : decode cX3_numberSetOff 14 = .ok (.iload_n 3, 1) := by decide +kernel
theorem dX3_numberSetOff_15 : decode cX3_numberSetOff 15 = .ok (.invokevirtual 59, 3) := by decide +kernel
theorem dX3_numberSetOff_18 : decode cX3_numberSetOff 18 = .ok (.iload_n 1, 1) := by decide +kernel
theorem dX3_numberSetOff_19 : decode cX3_numberSetOff 19 = .ok (.invokevirtual 185, 3) := by decide +kernel
theorem dX3_numberSetOff_22 : decode cX3_numberSetOff 22 = .ok (.ifCond .eq 6, 3) := by decide +kernel
theorem dX3_numberSetOff_25 : decode cX3_numberSetOff 25 = .ok (.iinc 2 1, 3) := by decide +kernel
theorem dX3_numberSetOff_28 : decode cX3_numberSetOff 28 = .ok (.iinc 3 1, 3) := by decide +kernel
theorem dX3_numberSetOff_31 : decode cX3_numberSetOff 31 = .ok (.goto (-27), 3) := by decide +kernel
theorem dX3_numberSetOff_34 : decode cX3_numberSetOff 34 = .ok (.iload_n 2, 1) := by decide +kernel
theorem dX3_numberSetOff_35 : decode cX3_numberSetOff 35 = .ok (.ireturn, 1) := by decide +kernel
theorem dX3_setOff_0 : decode cX3_setOff 0 = .ok (.iconst 0, 1) := by decide +kernel
theorem dX3_setOff_1 : decode cX3_setOff 1 = .ok (.istore_n 2, 1) := by decide +kernel
theorem dX3_setOff_2 : decode cX3_setOff 2 = .ok (.iconst 0, 1) := by decide +kernel
theorem dX3_setOff_3 : decode cX3_setOff 3 = .ok (.istore_n 3, 1) := by decide +kernel
theorem dX3_setOff_4 : decode cX3_setOff 4 = .ok (.iload_n 3, 1) := by decide +kernel
theorem dX3_setOff_5 : decode cX3_setOff 5 = .ok (.aload_n 0, 1) := by decide +kernel
theorem dX3_setOff_6 : decode cX3_setOff 6 = .ok (.getfield 25, 3) := by decide +kernel
theorem dX3_setOff_9 : decode cX3_setOff 9 = .ok (.getfield 77, 3) := by decide +kernel
theorem dX3_setOff_12 : decode cX3_setOff 12 = .ok (.if_icmp .ge 53, 3) := by decide +kernel
theorem dX3_setOff_15 : decode cX3_setOff 15 = .ok (.aload_n 0, 1) := by decide +kernel
theorem dX3_setOff_16 : decode cX3_setOff 16 = .ok (.getfield 25, 3) := by decide +kernel
theorem dX3_setOff_19 : decode cX3_setOff 19 = .ok (.iload_n 3, 1) := by decide +kernel
theorem dX3_setOff_20 : decode cX3_setOff 20 = .ok (.invokevirtual 80, 3) := by decide +kernel
theorem dX3_setOff_23 : decode cX3_setOff 23 = .ok (.istore 4, 2) := by decide +kernel
theorem dX3_setOff_25 : decode cX3_setOff 25 = .ok (.aload_n 0, 1) := by decide +kernel
theorem dX3_setOff_26 : decode cX3_setOff 26 = .ok (.aload_n 0, 1) := by decide +kernel
theorem dX3_setOff_27 : decode cX3_setOff 27 = .ok (.iload 4, 2) := by decide +kernel
theorem dX3_setOff_29 : decode cX3_setOff 29 = .ok (.invokevirtual 59, 3) := by decide +kernel
theorem dX3_setOff_32 : decode cX3_setOff 32 = .ok (.iload_n 1, 1) := by decide +kernel
theorem dX3_setOff_33 : decode cX3_setOff 33 = .ok (.invokevirtual 185, 3) := by decide +kernel
theorem dX3_setOff_36 : decode cX3_setOff 36 = .ok (.ifCond .eq 23, 3) := by decide +kernel
theorem dX3_setOff_39 : decode cX3_setOff 39 = .ok (.iload_n 2, 1) := by decide +kernel
theorem dX3_setOff_40 : decode cX3_setOff 40 = .ok (.aload_n 0, 1) := by decide +kernel
theorem dX3_setOff_41 : decode cX3_setOff 41 = .ok (.getfield 29, 3) := by decide +kernel
theorem dX3_setOff_44 : decode cX3_setOff 44 = .ok (.arraylength, 1) := by decide +kernel
theorem dX3_setOff_45 : decode cX3_setOff 45 = .ok (.if_icmp .ge 14, 3) := by decide +kernel
theorem dX3_setOff_48 : decode cX3_setOff 48 = .ok (.aload_n 0, 1) := by decide +kernel
theorem dX3_setOff_49 : decode cX3_setOff 49 = .ok (.getfield 29, 3) := by decide +kernel
theorem dX3_setOff_52 : decode cX3_setOff 52 = .ok (.iload_n 2, 1) := by decide +kernel
theorem dX3_setOff_53 : decode cX3_setOff 53 = .ok (.iload 4, 2) := by decide +kernel
theorem dX3_setOff_55 : decode cX3_setOff 55 = .ok (.iastore, 1) := by decide +kernel
theorem dX3_setOff_56 : decode cX3_setOff 56 = .ok (.iinc 2 1, 3) := by decide +kernel
theorem dX3_setOff_59 : decode cX3_setOff 59 = .ok (.iinc 3 1, 3) := by decide +kernel
theorem dX3_setOff_62 : decode cX3_setOff 62 = .ok (.goto (-58), 3) := by decide +kernel
theorem dX3_setOff_65 : decode cX3_setOff 65 = .ok (.iconst 0, 1) := by decide +kernel
theorem dX3_setOff_66 : decode cX3_setOff 66 = .ok (.istore_n 3, 1) := by decide +kernel
theorem dX3_setOff_67 : decode cX3_setOff 67 = .ok (.iload_n 3, 1) := by decide +kernel
theorem dX3_setOff_68 : decode cX3_setOff 68 = .ok (.iload_n 2, 1) := by decide +kernel
theorem dX3_setOff_69 : decode cX3_setOff 69 = .ok (.if_icmp .ge 113, 3) := by decide +kernel
theorem dX3_setOff_72 : decode cX3_setOff 72 = .ok (.iload_n 3, 1) := by decide +kernel
theorem dX3_setOff_73 : decode cX3_setOff 73 = .ok (.aload_n 0, 1) := by decide +kernel
theorem dX3_setOff_74 : decode cX3_setOff 74 = .ok (.getfield 29, 3) := by decide +kernel
theorem dX3_setOff_77 : decode cX3_setOff 77 = .ok (.arraylength, 1) := by decide +kernel
theorem dX3_setOff_78 : decode cX3_setOff 78 = .ok (.if_icmp .ge 104, 3) := by decide +kernel
theorem dX3_setOff_81 : decode cX3_setOff 81 = .ok (.aload_n 0, 1) := by decide +kernel
theorem dX3_setOff_82 : decode cX3_setOff 82 = .ok (.aload_n 0, 1) := by decide +kernel
theorem dX3_setOff_83 : decode cX3_setOff 83 = .ok (.getfield 29, 3) := by decide +kernel
theorem dX3_setOff_86 : decode cX3_setOff 86 = .ok (.iload_n 3, 1) := by decide +kernel
theorem dX3_setOff_87 : decode cX3_setOff 87 = .ok (.iaload, 1) := by decide +kernel
theorem dX3_setOff_88 : decode cX3_setOff 88 = .ok (.invokevirtual 59, 3) := by decide +kernel
theorem dX3_setOff_91 : decode cX3_setOff 91 = .ok (.astore 4, 2) := by decide +kernel
theorem dX3_setOff_93 : decode cX3_setOff 93 = .ok (.aload 4, 2) := by decide +kernel
theorem dX3_setOff_95 : decode cX3_setOff 95 = .ok (.iconst 0, 1) := by decide +kernel
theorem dX3_setOff_96 : decode cX3_setOff 96 = .ok (.invokevirtual 114, 3) := by decide +kernel
theorem dX3_setOff_99 : decode cX3_setOff 99 = .ok (.ifCond .le 16, 3) := by decide +kernel
theorem dX3_setOff_102 : decode cX3_setOff 102 = .ok (.aload_n 0, 1) := by decide +kernel
theorem dX3_setOff_103 : decode cX3_setOff 103 = .ok (.dup, 1) := by decide +kernel
theorem dX3_setOff_104 : decode cX3_setOff 104 = .ok (.getfield 49, 3) := by decide +kernel
theorem dX3_setOff_107 : decode cX3_setOff 107 = .ok (.iconst 1, 1) := by decide +kernel
theorem dX3_setOff_108 : decode cX3_setOff 108 = .ok (.iadd, 1) := by decide +kernel
theorem dX3_setOff_109 : decode cX3_setOff 109 = .ok (.putfield 49, 3) := by decide +kernel
theorem dX3_setOff_112 : decode cX3_setOff 112 = .ok (.goto 26, 3) := by decide +kernel
theorem dX3_setOff_115 : decode cX3_setOff 115 = .ok (.aload_n 0, 1) := by decide +kernel
theorem dX3_setOff_116 : decode cX3_setOff 116 = .ok (.aload_n 0, 1) := by decide +kernel
theorem dX3_setOff_117 : decode cX3_setOff 117 = .ok (.getfield 29, 3) := by decide +kernel
theorem dX3_setOff_120 : decode cX3_setOff 120 = .ok (.iload_n 3, 1) := by decide +kernel
theorem dX3_setOff_121 : decode cX3_setOff 121 = .ok (.iaload, 1) := by decide +kernel
theorem dX3_setOff_122 : decode cX3_setOff 122 = .ok (.aload 4, 2) := by decide +kernel
theorem dX3_setOff_124 : decode cX3_setOff 124 = .ok (.getfield 133, 3) := by decide +kernel
theorem dX3_setOff_127 : decode cX3_setOff 127 = .ok (.aload 4, 2) := by decide +kernel
theorem dX3_setOff_129 : decode cX3_setOff 129 = .ok (.getfield 136, 3) := by decide +kernel
theorem dX3_setOff_132 : decode cX3_setOff 132 = .ok (.iconst (-1), 1) := by decide +kernel
theorem dX3_setOff_133 : decode cX3_setOff 133 = .ok (.iconst 0, 1) := by decide +kernel
theorem dX3_setOff_134 : decode cX3_setOff 134 = .ok (.invokevirtual 156, 3) := by decide +kernel
theorem dX3_setOff_137 : decode cX3_setOff 137 = .ok (.pop, 1) := by decide +kernel
theorem dX3_setOff_138 : decode cX3_setOff 138 = .ok (.aload 4, 2) := by decide +kernel
theorem dX3_setOff_140 : decode cX3_setOff 140 = .ok (.invokevirtual 88, 3) := by decide +kernel
theorem dX3_setOff_143 : decode cX3_setOff 143 = .ok (.aload 4, 2) := by decide +kernel
theorem dX3_setOff_145 : decode cX3_setOff 145 = .ok (.aload_n 0, 1) := by decide +kernel
theorem dX3_setOff_146 : decode cX3_setOff 146 = .ok (.aload_n 0, 1) := by decide +kernel
theorem dX3_setOff_147 : decode cX3_setOff 147 = .ok (.getfield 40, 3) := by decide +kernel
theorem dX3_setOff_150 : decode cX3_setOff 150 = .ok (.invokevirtual 59, 3) := by decide +kernel
theorem dX3_setOff_153 : decode cX3_setOff 153 = .ok (.getfield 74, 3) := by decide +kernel
theorem dX3_setOff_156 : decode cX3_setOff 156 = .ok (.putfield 74, 3) := by decide +kernel
theorem dX3_setOff_159 : decode cX3_setOff 159 = .ok (.aload_n 0, 1) := by decide +kernel
theorem dX3_setOff_160 : decode cX3_setOff 160 = .ok (.getfield 25, 3) := by decide +kernel
theorem dX3_setOff_163 : decode cX3_setOff 163 = .ok (.aload_n 0, 1) := by decide +kernel
theorem dX3_setOff_164 : decode cX3_setOff 164 = .ok (.getfield 29, 3) := by decide +kernel
theorem dX3_setOff_167 : decode cX3_setOff 167 = .ok (.iload_n 3, 1) := by decide +kernel
theorem dX3_setOff_168 : decode cX3_setOff 168 = .ok (.iaload, 1) := by decide +kernel
theorem dX3_setOff_169 : decode cX3_setOff 169 = .ok (.aload_n 0, 1) := by decide +kernel
theorem dX3_setOff_170 : decode cX3_setOff 170 = .ok (.getfield 40, 3) := by decide +kernel
theorem dX3_setOff_173 : decode cX3_setOff 173 = .ok (.invokevirtual 189, 3) := by decide +kernel
theorem dX3_setOff_176 : decode cX3_setOff 176 = .ok (.iinc 3 1, 3) := by decide +kernel
theorem dX3_setOff_179 : decode cX3_setOff 179 = .ok (.goto (-112), 3) := by decide +kernel
theorem dX3_setOff_182 : decode cX3_setOff 182 = .ok (.return_, 1) := by decide +kernel
theorem dX3_property_0 : decode cX3_property 0 = .ok (.aload_n 0, 1) := by decide +kernel
theorem dX3_property_1 : decode cX3_property 1 = .ok (.iload_n 1, 1) := by decide +kernel
theorem dX3_property_2 : decode cX3_property 2 = .ok (.invokevirtual 59, 3) := by decide +kernel
theorem dX3_property_5 : decode cX3_property 5 = .ok (.astore_n 3, 1) := by decide +kernel
theorem dX3_property_6 : decode cX3_property 6 = .ok (.iload_n 2, 1) := by decide +kernel
theorem dX3_property_7 : decode cX3_property 7 = .ok (.tableswitch 123 0 13 #[69, 74, 79, 84, 89, 94, 99, 108, 123, 123, 123, 123, 113, 118], 69) := by decide +kernel
theorem dX3_property_76 : decode cX3_property 76 = .ok (.aload_n 3, 1) := by decide +kernel
theorem dX3_property_77 : decode cX3_property 77 = .ok (.getfield 63, 3) := by decide +kernel
theorem dX3_property_80 : decode cX3_property 80 = .ok (.ireturn, 1) := by decide +kernel
theorem dX3_property_81 : decode cX3_property 81 = .ok (.aload_n 3, 1) := by decide +kernel
theorem dX3_property_82 : decode cX3_property 82 = .ok (.getfield 74, 3) := by decide +kernel
theorem dX3_property_85 : decode cX3_property 85 = .ok (.ireturn, 1) := by decide +kernel
theorem dX3_property_86 : decode cX3_property 86 = .ok (.aload_n 3, 1) := by decide +kernel
theorem dX3_property_87 : decode cX3_property 87 = .ok (.getfield 169, 3) := by decide +kernel
theorem dX3_property_90 : decode cX3_property 90 = .ok (.ireturn, 1) := by decide +kernel
theorem dX3_property_91 : decode cX3_property 91 = .ok (.aload_n 3, 1) := by decide +kernel
theorem dX3_property_92 : decode cX3_property 92 = .ok (.getfield 192, 3) := by decide +kernel
theorem dX3_property_95 : decode cX3_property 95 = .ok (.ireturn, 1) := by decide +kernel
theorem dX3_property_96 : decode cX3_property 96 = .ok (.aload_n 3, 1) := by decide +kernel
theorem dX3_property_97 : decode cX3_property 97 = .ok (.getfield 195, 3) := by decide +kernel
theorem dX3_property_100 : decode cX3_property 100 = .ok (.ireturn, 1) := by decide +kernel
theorem dX3_property_101 : decode cX3_property 101 = .ok (.aload_n 3, 1) := by decide +kernel
theorem dX3_property_102 : decode cX3_property 102 = .ok (.getfield 145, 3) := by decide +kernel
theorem dX3_property_105 : decode cX3_property 105 = .ok (.ireturn, 1) := by decide +kernel
theorem dX3_property_106 : decode cX3_property 106 = .ok (.aload_n 0, 1) := by decide +kernel
theorem dX3_property_107 : decode cX3_property 107 = .ok (.getfield 25, 3) := by decide +kernel
theorem dX3_property_110 : decode cX3_property 110 = .ok (.iload_n 1, 1) := by decide +kernel
theorem dX3_property_111 : decode cX3_property 111 = .ok (.invokevirtual 124, 3) := by decide +kernel
theorem dX3_property_114 : decode cX3_property 114 = .ok (.ireturn, 1) := by decide +kernel
theorem dX3_property_115 : decode cX3_property 115 = .ok (.aload_n 3, 1) := by decide +kernel
theorem dX3_property_116 : decode cX3_property 116 = .ok (.invokevirtual 198, 3) := by decide +kernel
theorem dX3_property_119 : decode cX3_property 119 = .ok (.ireturn, 1) := by decide +kernel
theorem dX3_property_120 : decode cX3_property 120 = .ok (.aload_n 3, 1) := by decide +kernel
theorem dX3_property_121 : decode cX3_property 121 = .ok (.getfield 164, 3) := by decide +kernel
theorem dX3_property_124 : decode cX3_property 124 = .ok (.ireturn, 1) := by decide +kernel
theorem dX3_property_125 : decode cX3_property 125 = .ok (.aload_n 3, 1) := by decide +kernel
theorem dX3_property_126 : decode cX3_property 126 = .ok (.getfield 172, 3) := by decide +kernel
theorem dX3_property_129 : decode cX3_property 129 = .ok (.ireturn, 1) := by decide +kernel
theorem dX3_property_130 : decode cX3_property 130 = .ok (.aload_n 3, 1) := by decide +kernel
theorem dX3_property_131 : decode cX3_property 131 = .ok (.iload_n 2, 1) := by decide +kernel
theorem dX3_property_132 : decode cX3_property 132 = .ok (.bipush 8, 2) := by decide +kernel
theorem dX3_property_134 : decode cX3_property 134 = .ok (.isub, 1) := by decide +kernel
theorem dX3_property_135 : decode cX3_property 135 = .ok (.invokevirtual 114, 3) := by decide +kernel
theorem dX3_property_138 : decode cX3_property 138 = .ok (.ireturn, 1) := by decide +kernel
theorem dX3_counted_0 : decode cX3_counted 0 = .ok (.iload_n 1, 1) := by decide +kernel
theorem dX3_counted_1 : decode cX3_counted 1 = .ok (.tableswitch 117 0 10 #[59, 64, 69, 74, 80, 86, 91, 96, 101, 106, 111], 59) := by decide +kernel
theorem dX3_counted_60 : decode cX3_counted 60 = .ok (.aload_n 0, 1) := by decide +kernel
theorem dX3_counted_61 : decode cX3_counted 61 = .ok (.getfield 33, 3) := by decide +kernel
theorem dX3_counted_64 : decode cX3_counted 64 = .ok (.ireturn, 1) := by decide +kernel
theorem dX3_counted_65 : decode cX3_counted 65 = .ok (.aload_n 0, 1) := by decide +kernel
theorem dX3_counted_66 : decode cX3_counted 66 = .ok (.getfield 37, 3) := by decide +kernel
theorem dX3_counted_69 : decode cX3_counted 69 = .ok (.ireturn, 1) := by decide +kernel
theorem dX3_counted_70 : decode cX3_counted 70 = .ok (.aload_n 0, 1) := by decide +kernel
theorem dX3_counted_71 : decode cX3_counted 71 = .ok (.getfield 40, 3) := by decide +kernel
theorem dX3_counted_74 : decode cX3_counted 74 = .ok (.ireturn, 1) := by decide +kernel
theorem dX3_counted_75 : decode cX3_counted 75 = .ok (.aload_n 0, 1) := by decide +kernel
theorem dX3_counted_76 : decode cX3_counted 76 = .ok (.iconst 0, 1) := by decide +kernel
theorem dX3_counted_77 : decode cX3_counted 77 = .ok (.invokevirtual 127, 3) := by decide +kernel
theorem dX3_counted_80 : decode cX3_counted 80 = .ok (.ireturn, 1) := by decide +kernel
theorem dX3_counted_81 : decode cX3_counted 81 = .ok (.aload_n 0, 1) := by decide +kernel
theorem dX3_counted_82 : decode cX3_counted 82 = .ok (.iconst 1, 1) := by decide +kernel
theorem dX3_counted_83 : decode cX3_counted 83 = .ok (.invokevirtual 127, 3) := by decide +kernel
theorem dX3_counted_86 : decode cX3_counted 86 = .ok (.ireturn, 1) := by decide +kernel
theorem dX3_counted_87 : decode cX3_counted 87 = .ok (.aload_n 0, 1) := by decide +kernel
theorem dX3_counted_88 : decode cX3_counted 88 = .ok (.invokevirtual 201, 3) := by decide +kernel
theorem dX3_counted_91 : decode cX3_counted 91 = .ok (.ireturn, 1) := by decide +kernel
theorem dX3_counted_92 : decode cX3_counted 92 = .ok (.aload_n 0, 1) := by decide +kernel
theorem dX3_counted_93 : decode cX3_counted 93 = .ok (.invokevirtual 204, 3) := by decide +kernel
theorem dX3_counted_96 : decode cX3_counted 96 = .ok (.ireturn, 1) := by decide +kernel
theorem dX3_counted_97 : decode cX3_counted 97 = .ok (.aload_n 0, 1) := by decide +kernel
theorem dX3_counted_98 : decode cX3_counted 98 = .ok (.getfield 46, 3) := by decide +kernel
theorem dX3_counted_101 : decode cX3_counted 101 = .ok (.ireturn, 1) := by decide +kernel
theorem dX3_counted_102 : decode cX3_counted 102 = .ok (.aload_n 0, 1) := by decide +kernel
theorem dX3_counted_103 : decode cX3_counted 103 = .ok (.getfield 49, 3) := by decide +kernel
theorem dX3_counted_106 : decode cX3_counted 106 = .ok (.ireturn, 1) := by decide +kernel
theorem dX3_counted_107 : decode cX3_counted 107 = .ok (.aload_n 0, 1) := by decide +kernel
theorem dX3_counted_108 : decode cX3_counted 108 = .ok (.getfield 43, 3) := by decide +kernel
theorem dX3_counted_111 : decode cX3_counted 111 = .ok (.ireturn, 1) := by decide +kernel
theorem dX3_counted_112 : decode cX3_counted 112 = .ok (.aload_n 0, 1) := by decide +kernel
theorem dX3_counted_113 : decode cX3_counted 113 = .ok (.iconst 0, 1) := by decide +kernel
theorem dX3_counted_114 : decode cX3_counted 114 = .ok (.invokevirtual 207, 3) := by decide +kernel
theorem dX3_counted_117 : decode cX3_counted 117 = .ok (.ireturn, 1) := by decide +kernel
theorem dX3_counted_118 : decode cX3_counted 118 = .ok (.aload_n 0, 1) := by decide +kernel
theorem dX3_counted_119 : decode cX3_counted 119 = .ok (.iconst 1, 1) := by decide +kernel
theorem dX3_counted_120 : decode cX3_counted 120 = .ok (.invokevirtual 207, 3) := by decide +kernel
theorem dX3_counted_123 : decode cX3_counted 123 = .ok (.ireturn, 1) := by decide +kernel
theorem dX3_standingOf_0 : decode cX3_standingOf 0 = .ok (.iconst 0, 1) := by decide +kernel
theorem dX3_standingOf_1 : decode cX3_standingOf 1 = .ok (.istore_n 2, 1) := by decide +kernel
theorem dX3_standingOf_2 : decode cX3_standingOf 2 = .ok (.iconst 0, 1) := by decide +kernel
theorem dX3_standingOf_3 : decode cX3_standingOf 3 = .ok (.istore_n 3, 1) := by decide +kernel
theorem dX3_standingOf_4 : decode cX3_standingOf 4 = .ok (.iload_n 3, 1) := by decide +kernel
theorem dX3_standingOf_5 : decode cX3_standingOf 5 = .ok (.aload_n 0, 1) := by decide +kernel
theorem dX3_standingOf_6 : decode cX3_standingOf 6 = .ok (.getfield 33, 3) := by decide +kernel
theorem dX3_standingOf_9 : decode cX3_standingOf 9 = .ok (.if_icmp .ge 35, 3) := by decide +kernel
theorem dX3_standingOf_12 : decode cX3_standingOf 12 = .ok (.aload_n 0, 1) := by decide +kernel
theorem dX3_standingOf_13 : decode cX3_standingOf 13 = .ok (.iload_n 3, 1) := by decide +kernel
theorem dX3_standingOf_14 : decode cX3_standingOf 14 = .ok (.invokevirtual 59, 3) := by decide +kernel
theorem dX3_standingOf_17 : decode cX3_standingOf 17 = .ok (.getfield 63, 3) := by decide +kernel
theorem dX3_standingOf_20 : decode cX3_standingOf 20 = .ok (.iload_n 1, 1) := by decide +kernel
theorem dX3_standingOf_21 : decode cX3_standingOf 21 = .ok (.if_icmp .ne 17, 3) := by decide +kernel
theorem dX3_standingOf_24 : decode cX3_standingOf 24 = .ok (.aload_n 0, 1) := by decide +kernel
theorem dX3_standingOf_25 : decode cX3_standingOf 25 = .ok (.iload_n 3, 1) := by decide +kernel
theorem dX3_standingOf_26 : decode cX3_standingOf 26 = .ok (.invokevirtual 59, 3) := by decide +kernel
theorem dX3_standingOf_29 : decode cX3_standingOf 29 = .ok (.invokevirtual 108, 3) := by decide +kernel
theorem dX3_standingOf_32 : decode cX3_standingOf 32 = .ok (.ifCond .ne 6, 3) := by decide +kernel
theorem dX3_standingOf_35 : decode cX3_standingOf 35 = .ok (.iinc 2 1, 3) := by decide +kernel
theorem dX3_standingOf_38 : decode cX3_standingOf 38 = .ok (.iinc 3 1, 3) := by decide +kernel
theorem dX3_standingOf_41 : decode cX3_standingOf 41 = .ok (.goto (-37), 3) := by decide +kernel
theorem dX3_standingOf_44 : decode cX3_standingOf 44 = .ok (.iload_n 2, 1) := by decide +kernel
theorem dX3_standingOf_45 : decode cX3_standingOf 45 = .ok (.ireturn, 1) := by decide +kernel
theorem dX3_delaying_0 : decode cX3_delaying 0 = .ok (.iconst 0, 1) := by decide +kernel
theorem dX3_delaying_1 : decode cX3_delaying 1 = .ok (.istore_n 1, 1) := by decide +kernel
theorem dX3_delaying_2 : decode cX3_delaying 2 = .ok (.iconst 0, 1) := by decide +kernel
theorem dX3_delaying_3 : decode cX3_delaying 3 = .ok (.istore_n 2, 1) := by decide +kernel
theorem dX3_delaying_4 : decode cX3_delaying 4 = .ok (.iload_n 2, 1) := by decide +kernel
theorem dX3_delaying_5 : decode cX3_delaying 5 = .ok (.aload_n 0, 1) := by decide +kernel
theorem dX3_delaying_6 : decode cX3_delaying 6 = .ok (.getfield 33, 3) := by decide +kernel
theorem dX3_delaying_9 : decode cX3_delaying 9 = .ok (.if_icmp .ge 34, 3) := by decide +kernel
theorem dX3_delaying_12 : decode cX3_delaying 12 = .ok (.aload_n 0, 1) := by decide +kernel
theorem dX3_delaying_13 : decode cX3_delaying 13 = .ok (.iload_n 2, 1) := by decide +kernel
theorem dX3_delaying_14 : decode cX3_delaying 14 = .ok (.invokevirtual 59, 3) := by decide +kernel
theorem dX3_delaying_17 : decode cX3_delaying 17 = .ok (.getfield 104, 3) := by decide +kernel
theorem dX3_delaying_20 : decode cX3_delaying 20 = .ok (.ifCond .eq 17, 3) := by decide +kernel
theorem dX3_delaying_23 : decode cX3_delaying 23 = .ok (.aload_n 0, 1) := by decide +kernel
theorem dX3_delaying_24 : decode cX3_delaying 24 = .ok (.iload_n 2, 1) := by decide +kernel
theorem dX3_delaying_25 : decode cX3_delaying 25 = .ok (.invokevirtual 59, 3) := by decide +kernel
theorem dX3_delaying_28 : decode cX3_delaying 28 = .ok (.invokevirtual 108, 3) := by decide +kernel
theorem dX3_delaying_31 : decode cX3_delaying 31 = .ok (.ifCond .ne 6, 3) := by decide +kernel
theorem dX3_delaying_34 : decode cX3_delaying 34 = .ok (.iinc 1 1, 3) := by decide +kernel
theorem dX3_delaying_37 : decode cX3_delaying 37 = .ok (.iinc 2 1, 3) := by decide +kernel
theorem dX3_delaying_40 : decode cX3_delaying 40 = .ok (.goto (-36), 3) := by decide +kernel
theorem dX3_delaying_43 : decode cX3_delaying 43 = .ok (.iload_n 1, 1) := by decide +kernel
theorem dX3_delaying_44 : decode cX3_delaying 44 = .ok (.ireturn, 1) := by decide +kernel
theorem dX3_readying_0 : decode cX3_readying 0 = .ok (.iconst 0, 1) := by decide +kernel
theorem dX3_readying_1 : decode cX3_readying 1 = .ok (.istore_n 1, 1) := by decide +kernel
theorem dX3_readying_2 : decode cX3_readying 2 = .ok (.iconst 0, 1) := by decide +kernel
theorem dX3_readying_3 : decode cX3_readying 3 = .ok (.istore_n 2, 1) := by decide +kernel
theorem dX3_readying_4 : decode cX3_readying 4 = .ok (.iload_n 2, 1) := by decide +kernel
theorem dX3_readying_5 : decode cX3_readying 5 = .ok (.aload_n 0, 1) := by decide +kernel
theorem dX3_readying_6 : decode cX3_readying 6 = .ok (.getfield 33, 3) := by decide +kernel
theorem dX3_readying_9 : decode cX3_readying 9 = .ok (.if_icmp .ge 34, 3) := by decide +kernel
theorem dX3_readying_12 : decode cX3_readying 12 = .ok (.aload_n 0, 1) := by decide +kernel
theorem dX3_readying_13 : decode cX3_readying 13 = .ok (.iload_n 2, 1) := by decide +kernel
theorem dX3_readying_14 : decode cX3_readying 14 = .ok (.invokevirtual 59, 3) := by decide +kernel
theorem dX3_readying_17 : decode cX3_readying 17 = .ok (.invokevirtual 182, 3) := by decide +kernel
theorem dX3_readying_20 : decode cX3_readying 20 = .ok (.ifCond .eq 17, 3) := by decide +kernel
theorem dX3_readying_23 : decode cX3_readying 23 = .ok (.aload_n 0, 1) := by decide +kernel
theorem dX3_readying_24 : decode cX3_readying 24 = .ok (.iload_n 2, 1) := by decide +kernel
theorem dX3_readying_25 : decode cX3_readying 25 = .ok (.invokevirtual 59, 3) := by decide +kernel
theorem dX3_readying_28 : decode cX3_readying 28 = .ok (.invokevirtual 108, 3) := by decide +kernel
theorem dX3_readying_31 : decode cX3_readying 31 = .ok (.ifCond .ne 6, 3) := by decide +kernel
theorem dX3_readying_34 : decode cX3_readying 34 = .ok (.iinc 1 1, 3) := by decide +kernel
theorem dX3_readying_37 : decode cX3_readying 37 = .ok (.iinc 2 1, 3) := by decide +kernel
theorem dX3_readying_40 : decode cX3_readying 40 = .ok (.goto (-36), 3) := by decide +kernel
theorem dX3_readying_43 : decode cX3_readying 43 = .ok (.iload_n 1, 1) := by decide +kernel
theorem dX3_readying_44 : decode cX3_readying 44 = .ok (.ireturn, 1) := by decide +kernel
theorem dX3_lifeOf_0 : decode cX3_lifeOf 0 = .ok (.iconst 0, 1) := by decide +kernel
theorem dX3_lifeOf_1 : decode cX3_lifeOf 1 = .ok (.istore_n 2, 1) := by decide +kernel
theorem dX3_lifeOf_2 : decode cX3_lifeOf 2 = .ok (.iconst 0, 1) := by decide +kernel
theorem dX3_lifeOf_3 : decode cX3_lifeOf 3 = .ok (.istore_n 3, 1) := by decide +kernel
theorem dX3_lifeOf_4 : decode cX3_lifeOf 4 = .ok (.iload_n 3, 1) := by decide +kernel
theorem dX3_lifeOf_5 : decode cX3_lifeOf 5 = .ok (.aload_n 0, 1) := by decide +kernel
theorem dX3_lifeOf_6 : decode cX3_lifeOf 6 = .ok (.getfield 33, 3) := by decide +kernel
theorem dX3_lifeOf_9 : decode cX3_lifeOf 9 = .ok (.if_icmp .ge 32, 3) := by decide +kernel
theorem dX3_lifeOf_12 : decode cX3_lifeOf 12 = .ok (.aload_n 0, 1) := by decide +kernel
theorem dX3_lifeOf_13 : decode cX3_lifeOf 13 = .ok (.iload_n 3, 1) := by decide +kernel
theorem dX3_lifeOf_14 : decode cX3_lifeOf 14 = .ok (.invokevirtual 59, 3) := by decide +kernel
theorem dX3_lifeOf_17 : decode cX3_lifeOf 17 = .ok (.getfield 63, 3) := by decide +kernel
theorem dX3_lifeOf_20 : decode cX3_lifeOf 20 = .ok (.iload_n 1, 1) := by decide +kernel
theorem dX3_lifeOf_21 : decode cX3_lifeOf 21 = .ok (.if_icmp .ne 14, 3) := by decide +kernel
theorem dX3_lifeOf_24 : decode cX3_lifeOf 24 = .ok (.iload_n 2, 1) := by decide +kernel
theorem dX3_lifeOf_25 : decode cX3_lifeOf 25 = .ok (.aload_n 0, 1) := by decide +kernel
theorem dX3_lifeOf_26 : decode cX3_lifeOf 26 = .ok (.iload_n 3, 1) := by decide +kernel
theorem dX3_lifeOf_27 : decode cX3_lifeOf 27 = .ok (.invokevirtual 59, 3) := by decide +kernel
theorem dX3_lifeOf_30 : decode cX3_lifeOf 30 = .ok (.getfield 169, 3) := by decide +kernel
theorem dX3_lifeOf_33 : decode cX3_lifeOf 33 = .ok (.iadd, 1) := by decide +kernel
theorem dX3_lifeOf_34 : decode cX3_lifeOf 34 = .ok (.istore_n 2, 1) := by decide +kernel
theorem dX3_lifeOf_35 : decode cX3_lifeOf 35 = .ok (.iinc 3 1, 3) := by decide +kernel
theorem dX3_lifeOf_38 : decode cX3_lifeOf 38 = .ok (.goto (-34), 3) := by decide +kernel
theorem dX3_lifeOf_41 : decode cX3_lifeOf 41 = .ok (.iload_n 2, 1) := by decide +kernel
theorem dX3_lifeOf_42 : decode cX3_lifeOf 42 = .ok (.ireturn, 1) := by decide +kernel
theorem dX4_init_0 : decode cX4_init 0 = .ok (.aload_n 0, 1) := by decide +kernel
theorem dX4_init_1 : decode cX4_init 1 = .ok (.invokespecial 1, 3) := by decide +kernel
theorem dX4_init_4 : decode cX4_init 4 = .ok (.aload_n 0, 1) := by decide +kernel
theorem dX4_init_5 : decode cX4_init 5 = .ok (.new 7, 3) := by decide +kernel
theorem dX4_init_8 : decode cX4_init 8 = .ok (.dup, 1) := by decide +kernel
theorem dX4_init_9 : decode cX4_init 9 = .ok (.invokespecial 9, 3) := by decide +kernel
theorem dX4_init_12 : decode cX4_init 12 = .ok (.putfield 10, 3) := by decide +kernel
theorem dX4_init_15 : decode cX4_init 15 = .ok (.aload_n 0, 1) := by decide +kernel
theorem dX4_init_16 : decode cX4_init 16 = .ok (.new 7, 3) := by decide +kernel
theorem dX4_init_19 : decode cX4_init 19 = .ok (.dup, 1) := by decide +kernel
theorem dX4_init_20 : decode cX4_init 20 = .ok (.invokespecial 9, 3) := by decide +kernel
theorem dX4_init_23 : decode cX4_init 23 = .ok (.putfield 16, 3) := by decide +kernel
theorem dX4_init_26 : decode cX4_init 26 = .ok (.aload_n 0, 1) := by decide +kernel
theorem dX4_init_27 : decode cX4_init 27 = .ok (.bipush 6, 2) := by decide +kernel
theorem dX4_init_29 : decode cX4_init 29 = .ok (.anewarray 7, 3) := by decide +kernel
theorem dX4_init_32 : decode cX4_init 32 = .ok (.putfield 19, 3) := by decide +kernel
theorem dX4_init_35 : decode cX4_init 35 = .ok (.aload_n 0, 1) := by decide +kernel
theorem dX4_init_36 : decode cX4_init 36 = .ok (.iconst 0, 1) := by decide +kernel
theorem dX4_init_37 : decode cX4_init 37 = .ok (.putfield 23, 3) := by decide +kernel
theorem dX4_init_40 : decode cX4_init 40 = .ok (.aload_n 0, 1) := by decide +kernel
theorem dX4_init_41 : decode cX4_init 41 = .ok (.new 27, 3) := by decide +kernel
theorem dX4_init_44 : decode cX4_init 44 = .ok (.dup, 1) := by decide +kernel
theorem dX4_init_45 : decode cX4_init 45 = .ok (.invokespecial 29, 3) := by decide +kernel
theorem dX4_init_48 : decode cX4_init 48 = .ok (.putfield 30, 3) := by decide +kernel
theorem dX4_init_51 : decode cX4_init 51 = .ok (.iconst 0, 1) := by decide +kernel
theorem dX4_init_52 : decode cX4_init 52 = .ok (.istore_n 1, 1) := by decide +kernel
theorem dX4_init_53 : decode cX4_init 53 = .ok (.iload_n 1, 1) := by decide +kernel
theorem dX4_init_54 : decode cX4_init 54 = .ok (.aload_n 0, 1) := by decide +kernel
theorem dX4_init_55 : decode cX4_init 55 = .ok (.getfield 19, 3) := by decide +kernel
theorem dX4_init_58 : decode cX4_init 58 = .ok (.arraylength, 1) := by decide +kernel
theorem dX4_init_59 : decode cX4_init 59 = .ok (.if_icmp .ge 22, 3) := by decide +kernel
theorem dX4_init_62 : decode cX4_init 62 = .ok (.aload_n 0, 1) := by decide +kernel
theorem dX4_init_63 : decode cX4_init 63 = .ok (.getfield 19, 3) := by decide +kernel
theorem dX4_init_66 : decode cX4_init 66 = .ok (.iload_n 1, 1) := by decide +kernel
theorem dX4_init_67 : decode cX4_init 67 = .ok (.new 7, 3) := by decide +kernel
theorem dX4_init_70 : decode cX4_init 70 = .ok (.dup, 1) := by decide +kernel
theorem dX4_init_71 : decode cX4_init 71 = .ok (.invokespecial 9, 3) := by decide +kernel
theorem dX4_init_74 : decode cX4_init 74 = .ok (.aastore, 1) := by decide +kernel
theorem dX4_init_75 : decode cX4_init 75 = .ok (.iinc 1 1, 3) := by decide +kernel
theorem dX4_init_78 : decode cX4_init 78 = .ok (.goto (-25), 3) := by decide +kernel
theorem dX4_init_81 : decode cX4_init 81 = .ok (.return_, 1) := by decide +kernel
theorem dX4_come_0 : decode cX4_come 0 = .ok (.iload_n 1, 1) := by decide +kernel
theorem dX4_come_1 : decode cX4_come 1 = .ok (.iconst 0, 1) := by decide +kernel
theorem dX4_come_2 : decode cX4_come 2 = .ok (.iconst 1, 1) := by decide +kernel
theorem dX4_come_3 : decode cX4_come 3 = .ok (.invokestatic 34, 3) := by decide +kernel
theorem dX4_come_6 : decode cX4_come 6 = .ok (.ifCond .eq 38, 3) := by decide +kernel
theorem dX4_come_9 : decode cX4_come 9 = .ok (.iload_n 2, 1) := by decide +kernel
theorem dX4_come_10 : decode cX4_come 10 = .ok (.iconst 0, 1) := by decide +kernel
theorem dX4_come_11 : decode cX4_come 11 = .ok (.bipush 40, 2) := by decide +kernel
theorem dX4_come_13 : decode cX4_come 13 = .ok (.invokestatic 34, 3) := by decide +kernel
theorem dX4_come_16 : decode cX4_come 16 = .ok (.ifCond .eq 28, 3) := by decide +kernel
theorem dX4_come_19 : decode cX4_come 19 = .ok (.iload_n 3, 1) := by decide +kernel
theorem dX4_come_20 : decode cX4_come 20 = .ok (.iconst 1, 1) := by decide +kernel
theorem dX4_come_21 : decode cX4_come 21 = .ok (.bipush 99, 2) := by decide +kernel
theorem dX4_come_23 : decode cX4_come 23 = .ok (.invokestatic 34, 3) := by decide +kernel
theorem dX4_come_26 : decode cX4_come 26 = .ok (.ifCond .eq 18, 3) := by decide +kernel
theorem dX4_come_29 : decode cX4_come 29 = .ok (.iload 4, 2) := by decide +kernel
theorem dX4_come_31 : decode cX4_come 31 = .ok (.iconst 1, 1) := by decide +kernel
theorem dX4_come_32 : decode cX4_come 32 = .ok (.bipush 20, 2) := by decide +kernel
theorem dX4_come_34 : decode cX4_come 34 = .ok (.invokestatic 34, 3) := by decide +kernel
theorem dX4_come_37 : decode cX4_come 37 = .ok (.ifCond .eq 7, 3) := by decide +kernel
theorem dX4_come_40 : decode cX4_come 40 = .ok (.iconst 1, 1) := by decide +kernel
theorem dX4_come_41 : decode cX4_come 41 = .ok (.goto 4, 3) := by decide +kernel
theorem dX4_come_44 : decode cX4_come 44 = .ok (.iconst 0, 1) := by decide +kernel
theorem dX4_come_45 : decode cX4_come 45 = .ok (.invokestatic 38, 3) := by decide +kernel
theorem dX4_come_48 : decode cX4_come 48 = .ok (.aload_n 0, 1) := by decide +kernel
theorem dX4_come_49 : decode cX4_come 49 = .ok (.getfield 10, 3) := by decide +kernel
theorem dX4_come_52 : decode cX4_come 52 = .ok (.getfield 42, 3) := by decide +kernel
theorem dX4_come_55 : decode cX4_come 55 = .ok (.bipush 10, 2) := by decide +kernel
theorem dX4_come_57 : decode cX4_come 57 = .ok (.if_icmp .ge 7, 3) := by decide +kernel
theorem dX4_come_60 : decode cX4_come 60 = .ok (.iconst 1, 1) := by decide +kernel
theorem dX4_come_61 : decode cX4_come 61 = .ok (.goto 4, 3) := by decide +kernel
theorem dX4_come_64 : decode cX4_come 64 = .ok (.iconst 0, 1) := by decide +kernel
theorem dX4_come_65 : decode cX4_come 65 = .ok (.invokestatic 45, 3) := by decide +kernel
theorem dX4_come_68 : decode cX4_come 68 = .ok (.aload_n 0, 1) := by decide +kernel
theorem dX4_come_69 : decode cX4_come 69 = .ok (.invokevirtual 48, 3) := by decide +kernel
theorem dX4_come_72 : decode cX4_come 72 = .ok (.aload_n 0, 1) := by decide +kernel
theorem dX4_come_73 : decode cX4_come 73 = .ok (.getfield 10, 3) := by decide +kernel
theorem dX4_come_76 : decode cX4_come 76 = .ok (.iload_n 1, 1) := by decide +kernel
theorem dX4_come_77 : decode cX4_come 77 = .ok (.iload_n 2, 1) := by decide +kernel
theorem dX4_come_78 : decode cX4_come 78 = .ok (.iload_n 3, 1) := by decide +kernel
theorem dX4_come_79 : decode cX4_come 79 = .ok (.iload 4, 2) := by decide +kernel
theorem dX4_come_81 : decode cX4_come 81 = .ok (.invokevirtual 51, 3) := by decide +kernel
theorem dX4_come_84 : decode cX4_come 84 = .ok (.ireturn, 1) := by decide +kernel
theorem dX4_begin_0 : decode cX4_begin 0 = .ok (.aload_n 0, 1) := by decide +kernel
theorem dX4_begin_1 : decode cX4_begin 1 = .ok (.invokevirtual 48, 3) := by decide +kernel
theorem dX4_begin_4 : decode cX4_begin 4 = .ok (.aload_n 0, 1) := by decide +kernel
theorem dX4_begin_5 : decode cX4_begin 5 = .ok (.getfield 10, 3) := by decide +kernel
theorem dX4_begin_8 : decode cX4_begin 8 = .ok (.invokevirtual 55, 3) := by decide +kernel
theorem dX4_begin_11 : decode cX4_begin 11 = .ok (.aload_n 0, 1) := by decide +kernel
theorem dX4_begin_12 : decode cX4_begin 12 = .ok (.getfield 10, 3) := by decide +kernel
theorem dX4_begin_15 : decode cX4_begin 15 = .ok (.getfield 58, 3) := by decide +kernel
theorem dX4_begin_18 : decode cX4_begin 18 = .ok (.ireturn, 1) := by decide +kernel
theorem dX4_strike_0 : decode cX4_strike 0 = .ok (.aload_n 0, 1) := by decide +kernel
theorem dX4_strike_1 : decode cX4_strike 1 = .ok (.iload_n 1, 1) := by decide +kernel
theorem dX4_strike_2 : decode cX4_strike 2 = .ok (.invokevirtual 61, 3) := by decide +kernel
theorem dX4_strike_5 : decode cX4_strike 5 = .ok (.aload_n 0, 1) := by decide +kernel
theorem dX4_strike_6 : decode cX4_strike 6 = .ok (.getfield 10, 3) := by decide +kernel
theorem dX4_strike_9 : decode cX4_strike 9 = .ok (.aload_n 0, 1) := by decide +kernel
theorem dX4_strike_10 : decode cX4_strike 10 = .ok (.getfield 10, 3) := by decide +kernel
theorem dX4_strike_13 : decode cX4_strike 13 = .ok (.getfield 58, 3) := by decide +kernel
theorem dX4_strike_16 : decode cX4_strike 16 = .ok (.iconst 0, 1) := by decide +kernel
theorem dX4_strike_17 : decode cX4_strike 17 = .ok (.iload_n 1, 1) := by decide +kernel
theorem dX4_strike_18 : decode cX4_strike 18 = .ok (.invokevirtual 65, 3) := by decide +kernel
theorem dX4_strike_21 : decode cX4_strike 21 = .ok (.invokestatic 45, 3) := by decide +kernel
theorem dX4_strike_24 : decode cX4_strike 24 = .ok (.aload_n 0, 1) := by decide +kernel
theorem dX4_strike_25 : decode cX4_strike 25 = .ok (.invokevirtual 48, 3) := by decide +kernel
theorem dX4_strike_28 : decode cX4_strike 28 = .ok (.aload_n 0, 1) := by decide +kernel
theorem dX4_strike_29 : decode cX4_strike 29 = .ok (.getfield 10, 3) := by decide +kernel
theorem dX4_strike_32 : decode cX4_strike 32 = .ok (.iconst 0, 1) := by decide +kernel
theorem dX4_strike_33 : decode cX4_strike 33 = .ok (.iload_n 1, 1) := by decide +kernel
theorem dX4_strike_34 : decode cX4_strike 34 = .ok (.iconst (-1), 1) := by decide +kernel
theorem dX4_strike_35 : decode cX4_strike 35 = .ok (.iconst 0, 1) := by decide +kernel
theorem dX4_strike_36 : decode cX4_strike 36 = .ok (.invokevirtual 68, 3) := by decide +kernel
theorem dX4_strike_39 : decode cX4_strike 39 = .ok (.ireturn, 1) := by decide +kernel
theorem dX4_step_0 : decode cX4_step 0 = .ok (.iload_n 1, 1) := by decide +kernel
theorem dX4_step_1 : decode cX4_step 1 = .ok (.iconst 0, 1) := by decide +kernel
theorem dX4_step_2 : decode cX4_step 2 = .ok (.bipush 9, 2) := by decide +kernel
theorem dX4_step_4 : decode cX4_step 4 = .ok (.invokestatic 34, 3) := by decide +kernel
theorem dX4_step_7 : decode cX4_step 7 = .ok (.invokestatic 38, 3) := by decide +kernel
theorem dX4_step_10 : decode cX4_step 10 = .ok (.aload_n 0, 1) := by decide +kernel
theorem dX4_step_11 : decode cX4_step 11 = .ok (.getfield 10, 3) := by decide +kernel
theorem dX4_step_14 : decode cX4_step 14 = .ok (.aload_n 0, 1) := by decide +kernel
theorem dX4_step_15 : decode cX4_step 15 = .ok (.getfield 10, 3) := by decide +kernel
theorem dX4_step_18 : decode cX4_step 18 = .ok (.getfield 58, 3) := by decide +kernel
theorem dX4_step_21 : decode cX4_step 21 = .ok (.iconst 1, 1) := by decide +kernel
theorem dX4_step_22 : decode cX4_step 22 = .ok (.iload_n 1, 1) := by decide +kernel
theorem dX4_step_23 : decode cX4_step 23 = .ok (.invokevirtual 65, 3) := by decide +kernel
theorem dX4_step_26 : decode cX4_step 26 = .ok (.invokestatic 45, 3) := by decide +kernel
theorem dX4_step_29 : decode cX4_step 29 = .ok (.aload_n 0, 1) := by decide +kernel
theorem dX4_step_30 : decode cX4_step 30 = .ok (.invokevirtual 48, 3) := by decide +kernel
theorem dX4_step_33 : decode cX4_step 33 = .ok (.aload_n 0, 1) := by decide +kernel
theorem dX4_step_34 : decode cX4_step 34 = .ok (.getfield 10, 3) := by decide +kernel
theorem dX4_step_37 : decode cX4_step 37 = .ok (.iconst 1, 1) := by decide +kernel
theorem dX4_step_38 : decode cX4_step 38 = .ok (.iload_n 1, 1) := by decide +kernel
theorem dX4_step_39 : decode cX4_step 39 = .ok (.iconst (-1), 1) := by decide +kernel
theorem dX4_step_40 : decode cX4_step 40 = .ok (.iconst 0, 1) := by decide +kernel
theorem dX4_step_41 : decode cX4_step 41 = .ok (.invokevirtual 68, 3) := by decide +kernel
theorem dX4_step_44 : decode cX4_step 44 = .ok (.ireturn, 1) := by decide +kernel
theorem dX4_help_0 : decode cX4_help 0 = .ok (.aload_n 0, 1) := by decide +kernel
theorem dX4_help_1 : decode cX4_help 1 = .ok (.iload_n 1, 1) := by decide +kernel
theorem dX4_help_2 : decode cX4_help 2 = .ok (.invokevirtual 61, 3) := by decide +kernel
theorem dX4_help_5 : decode cX4_help 5 = .ok (.aload_n 0, 1) := by decide +kernel
theorem dX4_help_6 : decode cX4_help 6 = .ok (.getfield 10, 3) := by decide +kernel
theorem dX4_help_9 : decode cX4_help 9 = .ok (.aload_n 0, 1) := by decide +kernel
theorem dX4_help_10 : decode cX4_help 10 = .ok (.getfield 10, 3) := by decide +kernel
theorem dX4_help_13 : decode cX4_help 13 = .ok (.getfield 58, 3) := by decide +kernel
theorem dX4_help_16 : decode cX4_help 16 = .ok (.iconst 2, 1) := by decide +kernel
theorem dX4_help_17 : decode cX4_help 17 = .ok (.iload_n 1, 1) := by decide +kernel
theorem dX4_help_18 : decode cX4_help 18 = .ok (.invokevirtual 65, 3) := by decide +kernel
theorem dX4_help_21 : decode cX4_help 21 = .ok (.invokestatic 45, 3) := by decide +kernel
theorem dX4_help_24 : decode cX4_help 24 = .ok (.aload_n 0, 1) := by decide +kernel
theorem dX4_help_25 : decode cX4_help 25 = .ok (.invokevirtual 48, 3) := by decide +kernel
theorem dX4_help_28 : decode cX4_help 28 = .ok (.aload_n 0, 1) := by decide +kernel
theorem dX4_help_29 : decode cX4_help 29 = .ok (.getfield 10, 3) := by decide +kernel
theorem dX4_help_32 : decode cX4_help 32 = .ok (.iconst 2, 1) := by decide +kernel
theorem dX4_help_33 : decode cX4_help 33 = .ok (.iload_n 1, 1) := by decide +kernel
theorem dX4_help_34 : decode cX4_help 34 = .ok (.iconst (-1), 1) := by decide +kernel
theorem dX4_help_35 : decode cX4_help 35 = .ok (.iconst 0, 1) := by decide +kernel
theorem dX4_help_36 : decode cX4_help 36 = .ok (.invokevirtual 68, 3) := by decide +kernel
theorem dX4_help_39 : decode cX4_help 39 = .ok (.ireturn, 1) := by decide +kernel
theorem dX4_curse_0 : decode cX4_curse 0 = .ok (.aload_n 0, 1) := by decide +kernel
theorem dX4_curse_1 : decode cX4_curse 1 = .ok (.iload_n 1, 1) := by decide +kernel
theorem dX4_curse_2 : decode cX4_curse 2 = .ok (.invokevirtual 61, 3) := by decide +kernel
theorem dX4_curse_5 : decode cX4_curse 5 = .ok (.iload_n 2, 1) := by decide +kernel
theorem dX4_curse_6 : decode cX4_curse 6 = .ok (.iconst 0, 1) := by decide +kernel
theorem dX4_curse_7 : decode cX4_curse 7 = .ok (.iconst 3, 1) := by decide +kernel
theorem dX4_curse_8 : decode cX4_curse 8 = .ok (.invokestatic 34, 3) := by decide +kernel
theorem dX4_curse_11 : decode cX4_curse 11 = .ok (.ifCond .eq 16, 3) := by decide +kernel
theorem dX4_curse_14 : decode cX4_curse 14 = .ok (.iload_n 3, 1) := by decide +kernel
theorem dX4_curse_15 : decode cX4_curse 15 = .ok (.iconst 1, 1) := by decide +kernel
theorem dX4_curse_16 : decode cX4_curse 16 = .ok (.iconst 5, 1) := by decide +kernel
theorem dX4_curse_17 : decode cX4_curse 17 = .ok (.invokestatic 34, 3) := by decide +kernel
theorem dX4_curse_20 : decode cX4_curse 20 = .ok (.ifCond .eq 7, 3) := by decide +kernel
theorem dX4_curse_23 : decode cX4_curse 23 = .ok (.iconst 1, 1) := by decide +kernel
theorem dX4_curse_24 : decode cX4_curse 24 = .ok (.goto 4, 3) := by decide +kernel
theorem dX4_curse_27 : decode cX4_curse 27 = .ok (.iconst 0, 1) := by decide +kernel
theorem dX4_curse_28 : decode cX4_curse 28 = .ok (.invokestatic 38, 3) := by decide +kernel
theorem dX4_curse_31 : decode cX4_curse 31 = .ok (.aload_n 0, 1) := by decide +kernel
theorem dX4_curse_32 : decode cX4_curse 32 = .ok (.getfield 10, 3) := by decide +kernel
theorem dX4_curse_35 : decode cX4_curse 35 = .ok (.aload_n 0, 1) := by decide +kernel
theorem dX4_curse_36 : decode cX4_curse 36 = .ok (.getfield 10, 3) := by decide +kernel
theorem dX4_curse_39 : decode cX4_curse 39 = .ok (.getfield 58, 3) := by decide +kernel
theorem dX4_curse_42 : decode cX4_curse 42 = .ok (.iconst 3, 1) := by decide +kernel
theorem dX4_curse_43 : decode cX4_curse 43 = .ok (.iload_n 1, 1) := by decide +kernel
theorem dX4_curse_44 : decode cX4_curse 44 = .ok (.invokevirtual 65, 3) := by decide +kernel
theorem dX4_curse_47 : decode cX4_curse 47 = .ok (.invokestatic 45, 3) := by decide +kernel
theorem dX4_curse_50 : decode cX4_curse 50 = .ok (.aload_n 0, 1) := by decide +kernel
theorem dX4_curse_51 : decode cX4_curse 51 = .ok (.invokevirtual 48, 3) := by decide +kernel
theorem dX4_curse_54 : decode cX4_curse 54 = .ok (.aload_n 0, 1) := by decide +kernel
theorem dX4_curse_55 : decode cX4_curse 55 = .ok (.getfield 10, 3) := by decide +kernel
theorem dX4_curse_58 : decode cX4_curse 58 = .ok (.iconst 3, 1) := by decide +kernel
theorem dX4_curse_59 : decode cX4_curse 59 = .ok (.iload_n 1, 1) := by decide +kernel
theorem dX4_curse_60 : decode cX4_curse 60 = .ok (.iload_n 2, 1) := by decide +kernel
theorem dX4_curse_61 : decode cX4_curse 61 = .ok (.iload_n 3, 1) := by decide +kernel
theorem dX4_curse_62 : decode cX4_curse 62 = .ok (.invokevirtual 68, 3) := by decide +kernel
theorem dX4_curse_65 : decode cX4_curse 65 = .ok (.ireturn, 1) := by decide +kernel
theorem dX4_delay_0 : decode cX4_delay 0 = .ok (.aload_n 0, 1) := by decide +kernel
theorem dX4_delay_1 : decode cX4_delay 1 = .ok (.getfield 10, 3) := by decide +kernel
theorem dX4_delay_4 : decode cX4_delay 4 = .ok (.getfield 58, 3) := by decide +kernel
theorem dX4_delay_7 : decode cX4_delay 7 = .ok (.iconst (-1), 1) := by decide +kernel
theorem dX4_delay_8 : decode cX4_delay 8 = .ok (.if_icmp .eq 7, 3) := by decide +kernel
theorem dX4_delay_11 : decode cX4_delay 11 = .ok (.iconst 1, 1) := by decide +kernel
theorem dX4_delay_12 : decode cX4_delay 12 = .ok (.goto 4, 3) := by decide +kernel
theorem dX4_delay_15 : decode cX4_delay 15 = .ok (.iconst 0, 1) := by decide +kernel
theorem dX4_delay_16 : decode cX4_delay 16 = .ok (.invokestatic 45, 3) := by decide +kernel
theorem dX4_delay_19 : decode cX4_delay 19 = .ok (.aload_n 0, 1) := by decide +kernel
theorem dX4_delay_20 : decode cX4_delay 20 = .ok (.invokevirtual 48, 3) := by decide +kernel
theorem dX4_delay_23 : decode cX4_delay 23 = .ok (.aload_n 0, 1) := by decide +kernel
theorem dX4_delay_24 : decode cX4_delay 24 = .ok (.getfield 10, 3) := by decide +kernel
theorem dX4_delay_27 : decode cX4_delay 27 = .ok (.invokevirtual 71, 3) := by decide +kernel
theorem dX4_delay_30 : decode cX4_delay 30 = .ok (.aload_n 0, 1) := by decide +kernel
theorem dX4_delay_31 : decode cX4_delay 31 = .ok (.getfield 10, 3) := by decide +kernel
theorem dX4_delay_34 : decode cX4_delay 34 = .ok (.getfield 58, 3) := by decide +kernel
theorem dX4_delay_37 : decode cX4_delay 37 = .ok (.ireturn, 1) := by decide +kernel
theorem dX4_ready_0 : decode cX4_ready 0 = .ok (.aload_n 0, 1) := by decide +kernel
theorem dX4_ready_1 : decode cX4_ready 1 = .ok (.iload_n 2, 1) := by decide +kernel
theorem dX4_ready_2 : decode cX4_ready 2 = .ok (.invokevirtual 61, 3) := by decide +kernel
theorem dX4_ready_5 : decode cX4_ready 5 = .ok (.iload_n 3, 1) := by decide +kernel
theorem dX4_ready_6 : decode cX4_ready 6 = .ok (.iconst (-1), 1) := by decide +kernel
theorem dX4_ready_7 : decode cX4_ready 7 = .ok (.if_icmp .eq 8, 3) := by decide +kernel
theorem dX4_ready_10 : decode cX4_ready 10 = .ok (.aload_n 0, 1) := by decide +kernel
theorem dX4_ready_11 : decode cX4_ready 11 = .ok (.iload_n 3, 1) := by decide +kernel
theorem dX4_ready_12 : decode cX4_ready 12 = .ok (.invokevirtual 61, 3) := by decide +kernel
theorem dX4_ready_15 : decode cX4_ready 15 = .ok (.iload_n 1, 1) := by decide +kernel
theorem dX4_ready_16 : decode cX4_ready 16 = .ok (.ifCond .eq 8, 3) := by decide +kernel
theorem dX4_ready_19 : decode cX4_ready 19 = .ok (.iload_n 1, 1) := by decide +kernel
theorem dX4_ready_20 : decode cX4_ready 20 = .ok (.iconst 2, 1) := by decide +kernel
theorem dX4_ready_21 : decode cX4_ready 21 = .ok (.if_icmp .ne 17, 3) := by decide +kernel
theorem dX4_ready_24 : decode cX4_ready 24 = .ok (.iload 4, 2) := by decide +kernel
theorem dX4_ready_26 : decode cX4_ready 26 = .ok (.iconst 0, 1) := by decide +kernel
theorem dX4_ready_27 : decode cX4_ready 27 = .ok (.iconst 3, 1) := by decide +kernel
theorem dX4_ready_28 : decode cX4_ready 28 = .ok (.invokestatic 34, 3) := by decide +kernel
theorem dX4_ready_31 : decode cX4_ready 31 = .ok (.ifCond .eq 7, 3) := by decide +kernel
theorem dX4_ready_34 : decode cX4_ready 34 = .ok (.iconst 1, 1) := by decide +kernel
theorem dX4_ready_35 : decode cX4_ready 35 = .ok (.goto 4, 3) := by decide +kernel
theorem dX4_ready_38 : decode cX4_ready 38 = .ok (.iconst 0, 1) := by decide +kernel
theorem dX4_ready_39 : decode cX4_ready 39 = .ok (.invokestatic 38, 3) := by decide +kernel
theorem dX4_ready_42 : decode cX4_ready 42 = .ok (.aload_n 0, 1) := by decide +kernel
theorem dX4_ready_43 : decode cX4_ready 43 = .ok (.getfield 10, 3) := by decide +kernel
theorem dX4_ready_46 : decode cX4_ready 46 = .ok (.getfield 58, 3) := by decide +kernel
theorem dX4_ready_49 : decode cX4_ready 49 = .ok (.iconst (-1), 1) := by decide +kernel
theorem dX4_ready_50 : decode cX4_ready 50 = .ok (.if_icmp .eq 29, 3) := by decide +kernel
theorem dX4_ready_53 : decode cX4_ready 53 = .ok (.iload_n 2, 1) := by decide +kernel
theorem dX4_ready_54 : decode cX4_ready 54 = .ok (.aload_n 0, 1) := by decide +kernel
theorem dX4_ready_55 : decode cX4_ready 55 = .ok (.getfield 10, 3) := by decide +kernel
theorem dX4_ready_58 : decode cX4_ready 58 = .ok (.getfield 58, 3) := by decide +kernel
theorem dX4_ready_61 : decode cX4_ready 61 = .ok (.if_icmp .eq 18, 3) := by decide +kernel
theorem dX4_ready_64 : decode cX4_ready 64 = .ok (.iload_n 3, 1) := by decide +kernel
theorem dX4_ready_65 : decode cX4_ready 65 = .ok (.aload_n 0, 1) := by decide +kernel
theorem dX4_ready_66 : decode cX4_ready 66 = .ok (.getfield 10, 3) := by decide +kernel
theorem dX4_ready_69 : decode cX4_ready 69 = .ok (.getfield 58, 3) := by decide +kernel
theorem dX4_ready_72 : decode cX4_ready 72 = .ok (.if_icmp .eq 7, 3) := by decide +kernel
theorem dX4_ready_75 : decode cX4_ready 75 = .ok (.iconst 1, 1) := by decide +kernel
theorem dX4_ready_76 : decode cX4_ready 76 = .ok (.goto 4, 3) := by decide +kernel
theorem dX4_ready_79 : decode cX4_ready 79 = .ok (.iconst 0, 1) := by decide +kernel
theorem dX4_ready_80 : decode cX4_ready 80 = .ok (.invokestatic 45, 3) := by decide +kernel
theorem dX4_ready_83 : decode cX4_ready 83 = .ok (.aload_n 0, 1) := by decide +kernel
theorem dX4_ready_84 : decode cX4_ready 84 = .ok (.invokevirtual 48, 3) := by decide +kernel
theorem dX4_ready_87 : decode cX4_ready 87 = .ok (.aload_n 0, 1) := by decide +kernel
theorem dX4_ready_88 : decode cX4_ready 88 = .ok (.getfield 10, 3) := by decide +kernel
theorem dX4_ready_91 : decode cX4_ready 91 = .ok (.iload_n 1, 1) := by decide +kernel
theorem dX4_ready_92 : decode cX4_ready 92 = .ok (.iload_n 2, 1) := by decide +kernel
theorem dX4_ready_93 : decode cX4_ready 93 = .ok (.iload_n 3, 1) := by decide +kernel
theorem dX4_ready_94 : decode cX4_ready 94 = .ok (.iload 4, 2) := by decide +kernel
theorem dX4_ready_96 : decode cX4_ready 96 = .ok (.invokevirtual 74, 3) := by decide +kernel
theorem dX4_ready_99 : decode cX4_ready 99 = .ok (.aload_n 0, 1) := by decide +kernel
theorem dX4_ready_100 : decode cX4_ready 100 = .ok (.getfield 10, 3) := by decide +kernel
theorem dX4_ready_103 : decode cX4_ready 103 = .ok (.getfield 58, 3) := by decide +kernel
theorem dX4_ready_106 : decode cX4_ready 106 = .ok (.ireturn, 1) := by decide +kernel
theorem dX4_end_0 : decode cX4_end 0 = .ok (.aload_n 0, 1) := by decide +kernel
theorem dX4_end_1 : decode cX4_end 1 = .ok (.getfield 10, 3) := by decide +kernel
theorem dX4_end_4 : decode cX4_end 4 = .ok (.getfield 58, 3) := by decide +kernel
theorem dX4_end_7 : decode cX4_end 7 = .ok (.iconst (-1), 1) := by decide +kernel
theorem dX4_end_8 : decode cX4_end 8 = .ok (.if_icmp .eq 7, 3) := by decide +kernel
theorem dX4_end_11 : decode cX4_end 11 = .ok (.iconst 1, 1) := by decide +kernel
theorem dX4_end_12 : decode cX4_end 12 = .ok (.goto 4, 3) := by decide +kernel
theorem dX4_end_15 : decode cX4_end 15 = .ok (.iconst 0, 1) := by decide +kernel
theorem dX4_end_16 : decode cX4_end 16 = .ok (.invokestatic 45, 3) := by decide +kernel
theorem dX4_end_19 : decode cX4_end 19 = .ok (.aload_n 0, 1) := by decide +kernel
theorem dX4_end_20 : decode cX4_end 20 = .ok (.invokevirtual 48, 3) := by decide +kernel
theorem dX4_end_23 : decode cX4_end 23 = .ok (.aload_n 0, 1) := by decide +kernel
theorem dX4_end_24 : decode cX4_end 24 = .ok (.getfield 10, 3) := by decide +kernel
theorem dX4_end_27 : decode cX4_end 27 = .ok (.invokevirtual 78, 3) := by decide +kernel
theorem dX4_end_30 : decode cX4_end 30 = .ok (.aload_n 0, 1) := by decide +kernel
theorem dX4_end_31 : decode cX4_end 31 = .ok (.getfield 10, 3) := by decide +kernel
theorem dX4_end_34 : decode cX4_end 34 = .ok (.getfield 58, 3) := by decide +kernel
theorem dX4_end_37 : decode cX4_end 37 = .ok (.ireturn, 1) := by decide +kernel
theorem dX4_comeIn_0 : decode cX4_comeIn 0 = .ok (.aload_n 0, 1) := by decide +kernel
theorem dX4_comeIn_1 : decode cX4_comeIn 1 = .ok (.iload_n 1, 1) := by decide +kernel
theorem dX4_comeIn_2 : decode cX4_comeIn 2 = .ok (.invokevirtual 61, 3) := by decide +kernel
theorem dX4_comeIn_5 : decode cX4_comeIn 5 = .ok (.aload_n 0, 1) := by decide +kernel
theorem dX4_comeIn_6 : decode cX4_comeIn 6 = .ok (.getfield 10, 3) := by decide +kernel
theorem dX4_comeIn_9 : decode cX4_comeIn 9 = .ok (.iload_n 1, 1) := by decide +kernel
theorem dX4_comeIn_10 : decode cX4_comeIn 10 = .ok (.invokevirtual 81, 3) := by decide +kernel
theorem dX4_comeIn_13 : decode cX4_comeIn 13 = .ok (.invokestatic 45, 3) := by decide +kernel
theorem dX4_comeIn_16 : decode cX4_comeIn 16 = .ok (.aload_n 0, 1) := by decide +kernel
theorem dX4_comeIn_17 : decode cX4_comeIn 17 = .ok (.invokevirtual 48, 3) := by decide +kernel
theorem dX4_comeIn_20 : decode cX4_comeIn 20 = .ok (.aload_n 0, 1) := by decide +kernel
theorem dX4_comeIn_21 : decode cX4_comeIn 21 = .ok (.getfield 10, 3) := by decide +kernel
theorem dX4_comeIn_24 : decode cX4_comeIn 24 = .ok (.iload_n 1, 1) := by decide +kernel
theorem dX4_comeIn_25 : decode cX4_comeIn 25 = .ok (.invokevirtual 85, 3) := by decide +kernel
theorem dX4_comeIn_28 : decode cX4_comeIn 28 = .ok (.ireturn, 1) := by decide +kernel
theorem dX4_append_0 : decode cX4_append 0 = .ok (.iload_n 1, 1) := by decide +kernel
theorem dX4_append_1 : decode cX4_append 1 = .ok (.bipush 33, 2) := by decide +kernel
theorem dX4_append_3 : decode cX4_append 3 = .ok (.bipush 126, 2) := by decide +kernel
theorem dX4_append_5 : decode cX4_append 5 = .ok (.invokestatic 34, 3) := by decide +kernel
theorem dX4_append_8 : decode cX4_append 8 = .ok (.invokestatic 38, 3) := by decide +kernel
theorem dX4_append_11 : decode cX4_append 11 = .ok (.aload_n 0, 1) := by decide +kernel
theorem dX4_append_12 : decode cX4_append 12 = .ok (.getfield 30, 3) := by decide +kernel
theorem dX4_append_15 : decode cX4_append 15 = .ok (.getfield 89, 3) := by decide +kernel
theorem dX4_append_18 : decode cX4_append 18 = .ok (.bipush 60, 2) := by decide +kernel
theorem dX4_append_20 : decode cX4_append 20 = .ok (.if_icmp .ge 7, 3) := by decide +kernel
theorem dX4_append_23 : decode cX4_append 23 = .ok (.iconst 1, 1) := by decide +kernel
theorem dX4_append_24 : decode cX4_append 24 = .ok (.goto 4, 3) := by decide +kernel
theorem dX4_append_27 : decode cX4_append 27 = .ok (.iconst 0, 1) := by decide +kernel
theorem dX4_append_28 : decode cX4_append 28 = .ok (.invokestatic 45, 3) := by decide +kernel
theorem dX4_append_31 : decode cX4_append 31 = .ok (.aload_n 0, 1) := by decide +kernel
theorem dX4_append_32 : decode cX4_append 32 = .ok (.getfield 30, 3) := by decide +kernel
theorem dX4_append_35 : decode cX4_append 35 = .ok (.iload_n 1, 1) := by decide +kernel
theorem dX4_append_36 : decode cX4_append 36 = .ok (.invokevirtual 92, 3) := by decide +kernel
theorem dX4_append_39 : decode cX4_append 39 = .ok (.aload_n 0, 1) := by decide +kernel
theorem dX4_append_40 : decode cX4_append 40 = .ok (.getfield 30, 3) := by decide +kernel
theorem dX4_append_43 : decode cX4_append 43 = .ok (.getfield 89, 3) := by decide +kernel
theorem dX4_append_46 : decode cX4_append 46 = .ok (.ireturn, 1) := by decide +kernel
theorem dX4_clearBuffer_0 : decode cX4_clearBuffer 0 = .ok (.aload_n 0, 1) := by decide +kernel
theorem dX4_clearBuffer_1 : decode cX4_clearBuffer 1 = .ok (.getfield 30, 3) := by decide +kernel
theorem dX4_clearBuffer_4 : decode cX4_clearBuffer 4 = .ok (.getfield 89, 3) := by decide +kernel
theorem dX4_clearBuffer_7 : decode cX4_clearBuffer 7 = .ok (.istore_n 1, 1) := by decide +kernel
theorem dX4_clearBuffer_8 : decode cX4_clearBuffer 8 = .ok (.aload_n 0, 1) := by decide +kernel
theorem dX4_clearBuffer_9 : decode cX4_clearBuffer 9 = .ok (.getfield 30, 3) := by decide +kernel
theorem dX4_clearBuffer_12 : decode cX4_clearBuffer 12 = .ok (.iconst 0, 1) := by decide +kernel
theorem dX4_clearBuffer_13 : decode cX4_clearBuffer 13 = .ok (.putfield 89, 3) := by decide +kernel
theorem dX4_clearBuffer_16 : decode cX4_clearBuffer 16 = .ok (.iload_n 1, 1) := by decide +kernel
theorem dX4_clearBuffer_17 : decode cX4_clearBuffer 17 = .ok (.ireturn, 1) := by decide +kernel
theorem dX4_firstError_0 : decode cX4_firstError 0 = .ok (.aload_n 0, 1) := by decide +kernel
theorem dX4_firstError_1 : decode cX4_firstError 1 = .ok (.getfield 30, 3) := by decide +kernel
theorem dX4_firstError_4 : decode cX4_firstError 4 = .ok (.invokevirtual 95, 3) := by decide +kernel
theorem dX4_firstError_7 : decode cX4_firstError 7 = .ok (.ireturn, 1) := by decide +kernel
theorem dX4_run_0 : decode cX4_run 0 = .ok (.aload_n 0, 1) := by decide +kernel
theorem dX4_run_1 : decode cX4_run 1 = .ok (.getfield 30, 3) := by decide +kernel
theorem dX4_run_4 : decode cX4_run 4 = .ok (.invokevirtual 99, 3) := by decide +kernel
theorem dX4_run_7 : decode cX4_run 7 = .ok (.invokestatic 38, 3) := by decide +kernel
theorem dX4_run_10 : decode cX4_run 10 = .ok (.aload_n 0, 1) := by decide +kernel
theorem dX4_run_11 : decode cX4_run 11 = .ok (.invokevirtual 48, 3) := by decide +kernel
theorem dX4_run_14 : decode cX4_run 14 = .ok (.iconst 0, 1) := by decide +kernel
theorem dX4_run_15 : decode cX4_run 15 = .ok (.istore_n 1, 1) := by decide +kernel
theorem dX4_run_16 : decode cX4_run 16 = .ok (.iconst 0, 1) := by decide +kernel
theorem dX4_run_17 : decode cX4_run 17 = .ok (.istore_n 2, 1) := by decide +kernel
theorem dX4_run_18 : decode cX4_run 18 = .ok (.iload_n 2, 1) := by decide +kernel
theorem dX4_run_19 : decode cX4_run 19 = .ok (.aload_n 0, 1) := by decide +kernel
theorem dX4_run_20 : decode cX4_run 20 = .ok (.getfield 30, 3) := by decide +kernel
theorem dX4_run_23 : decode cX4_run 23 = .ok (.getfield 89, 3) := by decide +kernel
theorem dX4_run_26 : decode cX4_run 26 = .ok (.if_icmp .ge 39, 3) := by decide +kernel
theorem dX4_run_29 : decode cX4_run 29 = .ok (.aload_n 0, 1) := by decide +kernel
theorem dX4_run_30 : decode cX4_run 30 = .ok (.getfield 30, 3) := by decide +kernel
theorem dX4_run_33 : decode cX4_run 33 = .ok (.iload_n 2, 1) := by decide +kernel
theorem dX4_run_34 : decode cX4_run 34 = .ok (.invokevirtual 103, 3) := by decide +kernel
theorem dX4_run_37 : decode cX4_run 37 = .ok (.ifCond .eq 22, 3) := by decide +kernel
theorem dX4_run_40 : decode cX4_run 40 = .ok (.aload_n 0, 1) := by decide +kernel
theorem dX4_run_41 : decode cX4_run 41 = .ok (.iload_n 2, 1) := by decide +kernel
theorem dX4_run_42 : decode cX4_run 42 = .ok (.invokevirtual 106, 3) := by decide +kernel
theorem dX4_run_45 : decode cX4_run 45 = .ok (.ifCond .ne 6, 3) := by decide +kernel
theorem dX4_run_48 : decode cX4_run 48 = .ok (.goto 17, 3) := by decide +kernel
theorem dX4_run_51 : decode cX4_run 51 = .ok (.aload_n 0, 1) := by decide +kernel
theorem dX4_run_52 : decode cX4_run 52 = .ok (.iload_n 2, 1) := by decide +kernel
theorem dX4_run_53 : decode cX4_run 53 = .ok (.invokevirtual 109, 3) := by decide +kernel
theorem dX4_run_56 : decode cX4_run 56 = .ok (.iinc 1 1, 3) := by decide +kernel
theorem dX4_run_59 : decode cX4_run 59 = .ok (.iinc 2 1, 3) := by decide +kernel
theorem dX4_run_62 : decode cX4_run 62 = .ok (.goto (-44), 3) := by decide +kernel
theorem dX4_run_65 : decode cX4_run 65 = .ok (.aload_n 0, 1) := by decide +kernel
theorem dX4_run_66 : decode cX4_run 66 = .ok (.getfield 30, 3) := by decide +kernel
theorem dX4_run_69 : decode cX4_run 69 = .ok (.iconst 0, 1) := by decide +kernel
theorem dX4_run_70 : decode cX4_run 70 = .ok (.putfield 89, 3) := by decide +kernel
theorem dX4_run_73 : decode cX4_run 73 = .ok (.iload_n 1, 1) := by decide +kernel
theorem dX4_run_74 : decode cX4_run 74 = .ok (.ireturn, 1) := by decide +kernel
theorem dX4_undo_0 : decode cX4_undo 0 = .ok (.aload_n 0, 1) := by decide +kernel
theorem dX4_undo_1 : decode cX4_undo 1 = .ok (.getfield 23, 3) := by decide +kernel
theorem dX4_undo_4 : decode cX4_undo 4 = .ok (.ifCond .le 19, 3) := by decide +kernel
theorem dX4_undo_7 : decode cX4_undo 7 = .ok (.aload_n 0, 1) := by decide +kernel
theorem dX4_undo_8 : decode cX4_undo 8 = .ok (.getfield 23, 3) := by decide +kernel
theorem dX4_undo_11 : decode cX4_undo 11 = .ok (.aload_n 0, 1) := by decide +kernel
theorem dX4_undo_12 : decode cX4_undo 12 = .ok (.getfield 19, 3) := by decide +kernel
theorem dX4_undo_15 : decode cX4_undo 15 = .ok (.arraylength, 1) := by decide +kernel
theorem dX4_undo_16 : decode cX4_undo 16 = .ok (.if_icmp .gt 7, 3) := by decide +kernel
theorem dX4_undo_19 : decode cX4_undo 19 = .ok (.iconst 1, 1) := by decide +kernel
theorem dX4_undo_20 : decode cX4_undo 20 = .ok (.goto 4, 3) := by decide +kernel
theorem dX4_undo_23 : decode cX4_undo 23 = .ok (.iconst 0, 1) := by decide +kernel
theorem dX4_undo_24 : decode cX4_undo 24 = .ok (.invokestatic 45, 3) := by decide +kernel
theorem dX4_undo_27 : decode cX4_undo 27 = .ok (.aload_n 0, 1) := by decide +kernel
theorem dX4_undo_28 : decode cX4_undo 28 = .ok (.dup, 1) := by decide +kernel
theorem dX4_undo_29 : decode cX4_undo 29 = .ok (.getfield 23, 3) := by decide +kernel
theorem dX4_undo_32 : decode cX4_undo 32 = .ok (.iconst 1, 1) := by decide +kernel
theorem dX4_undo_33 : decode cX4_undo 33 = .ok (.isub, 1) := by decide +kernel
theorem dX4_undo_34 : decode cX4_undo 34 = .ok (.putfield 23, 3) := by decide +kernel
theorem dX4_undo_37 : decode cX4_undo 37 = .ok (.aload_n 0, 1) := by decide +kernel
theorem dX4_undo_38 : decode cX4_undo 38 = .ok (.getfield 10, 3) := by decide +kernel
theorem dX4_undo_41 : decode cX4_undo 41 = .ok (.aload_n 0, 1) := by decide +kernel
theorem dX4_undo_42 : decode cX4_undo 42 = .ok (.getfield 19, 3) := by decide +kernel
theorem dX4_undo_45 : decode cX4_undo 45 = .ok (.aload_n 0, 1) := by decide +kernel
theorem dX4_undo_46 : decode cX4_undo 46 = .ok (.getfield 23, 3) := by decide +kernel
theorem dX4_undo_49 : decode cX4_undo 49 = .ok (.aaload, 1) := by decide +kernel
theorem dX4_undo_50 : decode cX4_undo 50 = .ok (.invokevirtual 112, 3) := by decide +kernel
theorem dX4_undo_53 : decode cX4_undo 53 = .ok (.aload_n 0, 1) := by decide +kernel
theorem dX4_undo_54 : decode cX4_undo 54 = .ok (.getfield 23, 3) := by decide +kernel
theorem dX4_undo_57 : decode cX4_undo 57 = .ok (.ireturn, 1) := by decide +kernel
theorem dX4_fighter_0 : decode cX4_fighter 0 = .ok (.aload_n 0, 1) := by decide +kernel
theorem dX4_fighter_1 : decode cX4_fighter 1 = .ok (.iload_n 1, 1) := by decide +kernel
theorem dX4_fighter_2 : decode cX4_fighter 2 = .ok (.invokevirtual 61, 3) := by decide +kernel
theorem dX4_fighter_5 : decode cX4_fighter 5 = .ok (.iload_n 2, 1) := by decide +kernel
theorem dX4_fighter_6 : decode cX4_fighter 6 = .ok (.iconst 0, 1) := by decide +kernel
theorem dX4_fighter_7 : decode cX4_fighter 7 = .ok (.bipush 13, 2) := by decide +kernel
theorem dX4_fighter_9 : decode cX4_fighter 9 = .ok (.invokestatic 34, 3) := by decide +kernel
theorem dX4_fighter_12 : decode cX4_fighter 12 = .ok (.invokestatic 38, 3) := by decide +kernel
theorem dX4_fighter_15 : decode cX4_fighter 15 = .ok (.aload_n 0, 1) := by decide +kernel
theorem dX4_fighter_16 : decode cX4_fighter 16 = .ok (.getfield 10, 3) := by decide +kernel
theorem dX4_fighter_19 : decode cX4_fighter 19 = .ok (.iload_n 1, 1) := by decide +kernel
theorem dX4_fighter_20 : decode cX4_fighter 20 = .ok (.iload_n 2, 1) := by decide +kernel
theorem dX4_fighter_21 : decode cX4_fighter 21 = .ok (.invokevirtual 116, 3) := by decide +kernel
theorem dX4_fighter_24 : decode cX4_fighter 24 = .ok (.ireturn, 1) := by decide +kernel
theorem dX4_readied_0 : decode cX4_readied 0 = .ok (.aload_n 0, 1) := by decide +kernel
theorem dX4_readied_1 : decode cX4_readied 1 = .ok (.iload_n 1, 1) := by decide +kernel
theorem dX4_readied_2 : decode cX4_readied 2 = .ok (.invokevirtual 61, 3) := by decide +kernel
theorem dX4_readied_5 : decode cX4_readied 5 = .ok (.iload_n 2, 1) := by decide +kernel
theorem dX4_readied_6 : decode cX4_readied 6 = .ok (.iconst 0, 1) := by decide +kernel
theorem dX4_readied_7 : decode cX4_readied 7 = .ok (.iconst 3, 1) := by decide +kernel
theorem dX4_readied_8 : decode cX4_readied 8 = .ok (.invokestatic 34, 3) := by decide +kernel
theorem dX4_readied_11 : decode cX4_readied 11 = .ok (.invokestatic 38, 3) := by decide +kernel
theorem dX4_readied_14 : decode cX4_readied 14 = .ok (.aload_n 0, 1) := by decide +kernel
theorem dX4_readied_15 : decode cX4_readied 15 = .ok (.getfield 10, 3) := by decide +kernel
theorem dX4_readied_18 : decode cX4_readied 18 = .ok (.iload_n 1, 1) := by decide +kernel
theorem dX4_readied_19 : decode cX4_readied 19 = .ok (.invokevirtual 120, 3) := by decide +kernel
theorem dX4_readied_22 : decode cX4_readied 22 = .ok (.iload_n 2, 1) := by decide +kernel
theorem dX4_readied_23 : decode cX4_readied 23 = .ok (.invokevirtual 124, 3) := by decide +kernel
theorem dX4_readied_26 : decode cX4_readied 26 = .ok (.ireturn, 1) := by decide +kernel
theorem dX4_inRow_0 : decode cX4_inRow 0 = .ok (.iload_n 1, 1) := by decide +kernel
theorem dX4_inRow_1 : decode cX4_inRow 1 = .ok (.ifCond .lt 7, 3) := by decide +kernel
theorem dX4_inRow_4 : decode cX4_inRow 4 = .ok (.iconst 1, 1) := by decide +kernel
theorem dX4_inRow_5 : decode cX4_inRow 5 = .ok (.goto 4, 3) := by decide +kernel
theorem dX4_inRow_8 : decode cX4_inRow 8 = .ok (.iconst 0, 1) := by decide +kernel
theorem dX4_inRow_9 : decode cX4_inRow 9 = .ok (.invokestatic 38, 3) := by decide +kernel
theorem dX4_inRow_12 : decode cX4_inRow 12 = .ok (.aload_n 0, 1) := by decide +kernel
theorem dX4_inRow_13 : decode cX4_inRow 13 = .ok (.getfield 10, 3) := by decide +kernel
theorem dX4_inRow_16 : decode cX4_inRow 16 = .ok (.getfield 129, 3) := by decide +kernel
theorem dX4_inRow_19 : decode cX4_inRow 19 = .ok (.iload_n 1, 1) := by decide +kernel
theorem dX4_inRow_20 : decode cX4_inRow 20 = .ok (.invokevirtual 133, 3) := by decide +kernel
theorem dX4_inRow_23 : decode cX4_inRow 23 = .ok (.ireturn, 1) := by decide +kernel
theorem dX4_count_0 : decode cX4_count 0 = .ok (.iload_n 1, 1) := by decide +kernel
theorem dX4_count_1 : decode cX4_count 1 = .ok (.iconst 0, 1) := by decide +kernel
theorem dX4_count_2 : decode cX4_count 2 = .ok (.bipush 12, 2) := by decide +kernel
theorem dX4_count_4 : decode cX4_count 4 = .ok (.invokestatic 34, 3) := by decide +kernel
theorem dX4_count_7 : decode cX4_count 7 = .ok (.invokestatic 38, 3) := by decide +kernel
theorem dX4_count_10 : decode cX4_count 10 = .ok (.aload_n 0, 1) := by decide +kernel
theorem dX4_count_11 : decode cX4_count 11 = .ok (.iload_n 1, 1) := by decide +kernel
theorem dX4_count_12 : decode cX4_count 12 = .ok (.invokevirtual 138, 3) := by decide +kernel
theorem dX4_count_15 : decode cX4_count 15 = .ok (.ireturn, 1) := by decide +kernel
theorem dX4_ifDone_0 : decode cX4_ifDone 0 = .ok (.iload_n 1, 1) := by decide +kernel
theorem dX4_ifDone_1 : decode cX4_ifDone 1 = .ok (.iconst 0, 1) := by decide +kernel
theorem dX4_ifDone_2 : decode cX4_ifDone 2 = .ok (.iconst 3, 1) := by decide +kernel
theorem dX4_ifDone_3 : decode cX4_ifDone 3 = .ok (.invokestatic 34, 3) := by decide +kernel
theorem dX4_ifDone_6 : decode cX4_ifDone 6 = .ok (.ifCond .eq 16, 3) := by decide +kernel
theorem dX4_ifDone_9 : decode cX4_ifDone 9 = .ok (.iload_n 3, 1) := by decide +kernel
theorem dX4_ifDone_10 : decode cX4_ifDone 10 = .ok (.iconst 0, 1) := by decide +kernel
theorem dX4_ifDone_11 : decode cX4_ifDone 11 = .ok (.iconst 3, 1) := by decide +kernel
theorem dX4_ifDone_12 : decode cX4_ifDone 12 = .ok (.invokestatic 34, 3) := by decide +kernel
theorem dX4_ifDone_15 : decode cX4_ifDone 15 = .ok (.ifCond .eq 7, 3) := by decide +kernel
theorem dX4_ifDone_18 : decode cX4_ifDone 18 = .ok (.iconst 1, 1) := by decide +kernel
theorem dX4_ifDone_19 : decode cX4_ifDone 19 = .ok (.goto 4, 3) := by decide +kernel
theorem dX4_ifDone_22 : decode cX4_ifDone 22 = .ok (.iconst 0, 1) := by decide +kernel
theorem dX4_ifDone_23 : decode cX4_ifDone 23 = .ok (.invokestatic 38, 3) := by decide +kernel
theorem dX4_ifDone_26 : decode cX4_ifDone 26 = .ok (.iload_n 1, 1) := by decide +kernel
theorem dX4_ifDone_27 : decode cX4_ifDone 27 = .ok (.iconst 1, 1) := by decide +kernel
theorem dX4_ifDone_28 : decode cX4_ifDone 28 = .ok (.if_icmp .ne 13, 3) := by decide +kernel
theorem dX4_ifDone_31 : decode cX4_ifDone 31 = .ok (.iload_n 2, 1) := by decide +kernel
theorem dX4_ifDone_32 : decode cX4_ifDone 32 = .ok (.iconst 0, 1) := by decide +kernel
theorem dX4_ifDone_33 : decode cX4_ifDone 33 = .ok (.bipush 9, 2) := by decide +kernel
theorem dX4_ifDone_35 : decode cX4_ifDone 35 = .ok (.invokestatic 34, 3) := by decide +kernel
theorem dX4_ifDone_38 : decode cX4_ifDone 38 = .ok (.goto 11, 3) := by decide +kernel
theorem dX4_ifDone_41 : decode cX4_ifDone 41 = .ok (.aload_n 0, 1) := by decide +kernel
theorem dX4_ifDone_42 : decode cX4_ifDone 42 = .ok (.getfield 10, 3) := by decide +kernel
theorem dX4_ifDone_45 : decode cX4_ifDone 45 = .ok (.iload_n 2, 1) := by decide +kernel
theorem dX4_ifDone_46 : decode cX4_ifDone 46 = .ok (.invokevirtual 141, 3) := by decide +kernel
theorem dX4_ifDone_49 : decode cX4_ifDone 49 = .ok (.invokestatic 38, 3) := by decide +kernel
theorem dX4_ifDone_52 : decode cX4_ifDone 52 = .ok (.aload_n 0, 1) := by decide +kernel
theorem dX4_ifDone_53 : decode cX4_ifDone 53 = .ok (.getfield 10, 3) := by decide +kernel
theorem dX4_ifDone_56 : decode cX4_ifDone 56 = .ok (.aload_n 0, 1) := by decide +kernel
theorem dX4_ifDone_57 : decode cX4_ifDone 57 = .ok (.getfield 10, 3) := by decide +kernel
theorem dX4_ifDone_60 : decode cX4_ifDone 60 = .ok (.getfield 58, 3) := by decide +kernel
theorem dX4_ifDone_63 : decode cX4_ifDone 63 = .ok (.iload_n 1, 1) := by decide +kernel
theorem dX4_ifDone_64 : decode cX4_ifDone 64 = .ok (.iload_n 2, 1) := by decide +kernel
theorem dX4_ifDone_65 : decode cX4_ifDone 65 = .ok (.invokevirtual 65, 3) := by decide +kernel
theorem dX4_ifDone_68 : decode cX4_ifDone 68 = .ok (.istore 4, 2) := by decide +kernel
theorem dX4_ifDone_70 : decode cX4_ifDone 70 = .ok (.iload_n 3, 1) := by decide +kernel
theorem dX4_ifDone_71 : decode cX4_ifDone 71 = .ok (.ifCond .ne 14, 3) := by decide +kernel
theorem dX4_ifDone_74 : decode cX4_ifDone 74 = .ok (.iload 4, 2) := by decide +kernel
theorem dX4_ifDone_76 : decode cX4_ifDone 76 = .ok (.ifCond .eq 7, 3) := by decide +kernel
theorem dX4_ifDone_79 : decode cX4_ifDone 79 = .ok (.iconst 1, 1) := by decide +kernel
theorem dX4_ifDone_80 : decode cX4_ifDone 80 = .ok (.goto 4, 3) := by decide +kernel
theorem dX4_ifDone_83 : decode cX4_ifDone 83 = .ok (.iconst 0, 1) := by decide +kernel
theorem dX4_ifDone_84 : decode cX4_ifDone 84 = .ok (.ireturn, 1) := by decide +kernel
theorem dX4_ifDone_85 : decode cX4_ifDone 85 = .ok (.iload 4, 2) := by decide +kernel
theorem dX4_ifDone_87 : decode cX4_ifDone 87 = .ok (.ifCond .ne 5, 3) := by decide +kernel
theorem dX4_ifDone_90 : decode cX4_ifDone 90 = .ok (.iconst (-1), 1) := by decide +kernel
theorem dX4_ifDone_91 : decode cX4_ifDone 91 = .ok (.ireturn, 1) := by decide +kernel
theorem dX4_ifDone_92 : decode cX4_ifDone 92 = .ok (.iload_n 3, 1) := by decide +kernel
theorem dX4_ifDone_93 : decode cX4_ifDone 93 = .ok (.iconst 1, 1) := by decide +kernel
theorem dX4_ifDone_94 : decode cX4_ifDone 94 = .ok (.if_icmp .ne 12, 3) := by decide +kernel
theorem dX4_ifDone_97 : decode cX4_ifDone 97 = .ok (.aload_n 0, 1) := by decide +kernel
theorem dX4_ifDone_98 : decode cX4_ifDone 98 = .ok (.getfield 10, 3) := by decide +kernel
theorem dX4_ifDone_101 : decode cX4_ifDone 101 = .ok (.iload_n 1, 1) := by decide +kernel
theorem dX4_ifDone_102 : decode cX4_ifDone 102 = .ok (.invokevirtual 144, 3) := by decide +kernel
theorem dX4_ifDone_105 : decode cX4_ifDone 105 = .ok (.ireturn, 1) := by decide +kernel
theorem dX4_ifDone_106 : decode cX4_ifDone 106 = .ok (.aload_n 0, 1) := by decide +kernel
theorem dX4_ifDone_107 : decode cX4_ifDone 107 = .ok (.getfield 16, 3) := by decide +kernel
theorem dX4_ifDone_110 : decode cX4_ifDone 110 = .ok (.aload_n 0, 1) := by decide +kernel
theorem dX4_ifDone_111 : decode cX4_ifDone 111 = .ok (.getfield 10, 3) := by decide +kernel
theorem dX4_ifDone_114 : decode cX4_ifDone 114 = .ok (.invokevirtual 112, 3) := by decide +kernel
theorem dX4_ifDone_117 : decode cX4_ifDone 117 = .ok (.aload_n 0, 1) := by decide +kernel
theorem dX4_ifDone_118 : decode cX4_ifDone 118 = .ok (.getfield 16, 3) := by decide +kernel
theorem dX4_ifDone_121 : decode cX4_ifDone 121 = .ok (.iload_n 1, 1) := by decide +kernel
theorem dX4_ifDone_122 : decode cX4_ifDone 122 = .ok (.iload_n 2, 1) := by decide +kernel
theorem dX4_ifDone_123 : decode cX4_ifDone 123 = .ok (.iconst 0, 1) := by decide +kernel
theorem dX4_ifDone_124 : decode cX4_ifDone 124 = .ok (.iconst 1, 1) := by decide +kernel
theorem dX4_ifDone_125 : decode cX4_ifDone 125 = .ok (.invokevirtual 68, 3) := by decide +kernel
theorem dX4_ifDone_128 : decode cX4_ifDone 128 = .ok (.iconst (-1), 1) := by decide +kernel
theorem dX4_ifDone_129 : decode cX4_ifDone 129 = .ok (.if_icmp .ne 7, 3) := by decide +kernel
theorem dX4_ifDone_132 : decode cX4_ifDone 132 = .ok (.iconst 1, 1) := by decide +kernel
theorem dX4_ifDone_133 : decode cX4_ifDone 133 = .ok (.goto 4, 3) := by decide +kernel
theorem dX4_ifDone_136 : decode cX4_ifDone 136 = .ok (.iconst 0, 1) := by decide +kernel
theorem dX4_ifDone_137 : decode cX4_ifDone 137 = .ok (.istore 5, 2) := by decide +kernel
theorem dX4_ifDone_139 : decode cX4_ifDone 139 = .ok (.iload_n 3, 1) := by decide +kernel
theorem dX4_ifDone_140 : decode cX4_ifDone 140 = .ok (.iconst 2, 1) := by decide +kernel
theorem dX4_ifDone_141 : decode cX4_ifDone 141 = .ok (.if_icmp .ne 14, 3) := by decide +kernel
theorem dX4_ifDone_144 : decode cX4_ifDone 144 = .ok (.iload 5, 2) := by decide +kernel
theorem dX4_ifDone_146 : decode cX4_ifDone 146 = .ok (.ifCond .eq 7, 3) := by decide +kernel
theorem dX4_ifDone_149 : decode cX4_ifDone 149 = .ok (.iconst 0, 1) := by decide +kernel
theorem dX4_ifDone_150 : decode cX4_ifDone 150 = .ok (.goto 4, 3) := by decide +kernel
theorem dX4_ifDone_153 : decode cX4_ifDone 153 = .ok (.iconst 1, 1) := by decide +kernel
theorem dX4_ifDone_154 : decode cX4_ifDone 154 = .ok (.ireturn, 1) := by decide +kernel
theorem dX4_ifDone_155 : decode cX4_ifDone 155 = .ok (.aload_n 0, 1) := by decide +kernel
theorem dX4_ifDone_156 : decode cX4_ifDone 156 = .ok (.getfield 16, 3) := by decide +kernel
theorem dX4_ifDone_159 : decode cX4_ifDone 159 = .ok (.getfield 58, 3) := by decide +kernel
theorem dX4_ifDone_162 : decode cX4_ifDone 162 = .ok (.ireturn, 1) := by decide +kernel
theorem dX4_ifEnded_0 : decode cX4_ifEnded 0 = .ok (.iload_n 1, 1) := by decide +kernel
theorem dX4_ifEnded_1 : decode cX4_ifEnded 1 = .ok (.iconst 0, 1) := by decide +kernel
theorem dX4_ifEnded_2 : decode cX4_ifEnded 2 = .ok (.bipush 40, 2) := by decide +kernel
theorem dX4_ifEnded_4 : decode cX4_ifEnded 4 = .ok (.invokestatic 34, 3) := by decide +kernel
theorem dX4_ifEnded_7 : decode cX4_ifEnded 7 = .ok (.invokestatic 38, 3) := by decide +kernel
theorem dX4_ifEnded_10 : decode cX4_ifEnded 10 = .ok (.aload_n 0, 1) := by decide +kernel
theorem dX4_ifEnded_11 : decode cX4_ifEnded 11 = .ok (.getfield 16, 3) := by decide +kernel
theorem dX4_ifEnded_14 : decode cX4_ifEnded 14 = .ok (.aload_n 0, 1) := by decide +kernel
theorem dX4_ifEnded_15 : decode cX4_ifEnded 15 = .ok (.getfield 10, 3) := by decide +kernel
theorem dX4_ifEnded_18 : decode cX4_ifEnded 18 = .ok (.invokevirtual 112, 3) := by decide +kernel
theorem dX4_ifEnded_21 : decode cX4_ifEnded 21 = .ok (.iconst 0, 1) := by decide +kernel
theorem dX4_ifEnded_22 : decode cX4_ifEnded 22 = .ok (.istore_n 2, 1) := by decide +kernel
theorem dX4_ifEnded_23 : decode cX4_ifEnded 23 = .ok (.iload_n 2, 1) := by decide +kernel
theorem dX4_ifEnded_24 : decode cX4_ifEnded 24 = .ok (.iload_n 1, 1) := by decide +kernel
theorem dX4_ifEnded_25 : decode cX4_ifEnded 25 = .ok (.if_icmp .ge 16, 3) := by decide +kernel
theorem dX4_ifEnded_28 : decode cX4_ifEnded 28 = .ok (.aload_n 0, 1) := by decide +kernel
theorem dX4_ifEnded_29 : decode cX4_ifEnded 29 = .ok (.getfield 16, 3) := by decide +kernel
theorem dX4_ifEnded_32 : decode cX4_ifEnded 32 = .ok (.invokevirtual 78, 3) := by decide +kernel
theorem dX4_ifEnded_35 : decode cX4_ifEnded 35 = .ok (.iinc 2 1, 3) := by decide +kernel
theorem dX4_ifEnded_38 : decode cX4_ifEnded 38 = .ok (.goto (-15), 3) := by decide +kernel
theorem dX4_ifEnded_41 : decode cX4_ifEnded 41 = .ok (.aload_n 0, 1) := by decide +kernel
theorem dX4_ifEnded_42 : decode cX4_ifEnded 42 = .ok (.getfield 16, 3) := by decide +kernel
theorem dX4_ifEnded_45 : decode cX4_ifEnded 45 = .ok (.getfield 58, 3) := by decide +kernel
theorem dX4_ifEnded_48 : decode cX4_ifEnded 48 = .ok (.ireturn, 1) := by decide +kernel
theorem dX4_bestStrike_0 : decode cX4_bestStrike 0 = .ok (.aload_n 0, 1) := by decide +kernel
theorem dX4_bestStrike_1 : decode cX4_bestStrike 1 = .ok (.getfield 10, 3) := by decide +kernel
theorem dX4_bestStrike_4 : decode cX4_bestStrike 4 = .ok (.getfield 58, 3) := by decide +kernel
theorem dX4_bestStrike_7 : decode cX4_bestStrike 7 = .ok (.iconst (-1), 1) := by decide +kernel
theorem dX4_bestStrike_8 : decode cX4_bestStrike 8 = .ok (.if_icmp .ne 5, 3) := by decide +kernel
theorem dX4_bestStrike_11 : decode cX4_bestStrike 11 = .ok (.iconst (-1), 1) := by decide +kernel
theorem dX4_bestStrike_12 : decode cX4_bestStrike 12 = .ok (.ireturn, 1) := by decide +kernel
theorem dX4_bestStrike_13 : decode cX4_bestStrike 13 = .ok (.aload_n 0, 1) := by decide +kernel
theorem dX4_bestStrike_14 : decode cX4_bestStrike 14 = .ok (.getfield 16, 3) := by decide +kernel
theorem dX4_bestStrike_17 : decode cX4_bestStrike 17 = .ok (.aload_n 0, 1) := by decide +kernel
theorem dX4_bestStrike_18 : decode cX4_bestStrike 18 = .ok (.getfield 10, 3) := by decide +kernel
theorem dX4_bestStrike_21 : decode cX4_bestStrike 21 = .ok (.invokevirtual 112, 3) := by decide +kernel
theorem dX4_bestStrike_24 : decode cX4_bestStrike 24 = .ok (.aload_n 0, 1) := by decide +kernel
theorem dX4_bestStrike_25 : decode cX4_bestStrike 25 = .ok (.getfield 16, 3) := by decide +kernel
theorem dX4_bestStrike_28 : decode cX4_bestStrike 28 = .ok (.iconst 0, 1) := by decide +kernel
theorem dX4_bestStrike_29 : decode cX4_bestStrike 29 = .ok (.invokevirtual 147, 3) := by decide +kernel
theorem dX4_bestStrike_32 : decode cX4_bestStrike 32 = .ok (.iconst (-1), 1) := by decide +kernel
theorem dX4_bestStrike_33 : decode cX4_bestStrike 33 = .ok (.istore_n 1, 1) := by decide +kernel
theorem dX4_bestStrike_34 : decode cX4_bestStrike 34 = .ok (.iconst (-1), 1) := by decide +kernel
theorem dX4_bestStrike_35 : decode cX4_bestStrike 35 = .ok (.istore_n 2, 1) := by decide +kernel
theorem dX4_bestStrike_36 : decode cX4_bestStrike 36 = .ok (.iconst 0, 1) := by decide +kernel
theorem dX4_bestStrike_37 : decode cX4_bestStrike 37 = .ok (.istore_n 3, 1) := by decide +kernel
theorem dX4_bestStrike_38 : decode cX4_bestStrike 38 = .ok (.iload_n 3, 1) := by decide +kernel
theorem dX4_bestStrike_39 : decode cX4_bestStrike 39 = .ok (.aload_n 0, 1) := by decide +kernel
theorem dX4_bestStrike_40 : decode cX4_bestStrike 40 = .ok (.getfield 10, 3) := by decide +kernel
theorem dX4_bestStrike_43 : decode cX4_bestStrike 43 = .ok (.getfield 42, 3) := by decide +kernel
theorem dX4_bestStrike_46 : decode cX4_bestStrike 46 = .ok (.if_icmp .ge 103, 3) := by decide +kernel
theorem dX4_bestStrike_49 : decode cX4_bestStrike 49 = .ok (.aload_n 0, 1) := by decide +kernel
theorem dX4_bestStrike_50 : decode cX4_bestStrike 50 = .ok (.getfield 10, 3) := by decide +kernel
theorem dX4_bestStrike_53 : decode cX4_bestStrike 53 = .ok (.aload_n 0, 1) := by decide +kernel
theorem dX4_bestStrike_54 : decode cX4_bestStrike 54 = .ok (.getfield 10, 3) := by decide +kernel
theorem dX4_bestStrike_57 : decode cX4_bestStrike 57 = .ok (.getfield 58, 3) := by decide +kernel
theorem dX4_bestStrike_60 : decode cX4_bestStrike 60 = .ok (.iload_n 3, 1) := by decide +kernel
theorem dX4_bestStrike_61 : decode cX4_bestStrike 61 = .ok (.invokevirtual 150, 3) := by decide +kernel
theorem dX4_bestStrike_64 : decode cX4_bestStrike 64 = .ok (.ifCond .eq 79, 3) := by decide +kernel
theorem dX4_bestStrike_67 : decode cX4_bestStrike 67 = .ok (.aload_n 0, 1) := by decide +kernel
theorem dX4_bestStrike_68 : decode cX4_bestStrike 68 = .ok (.getfield 10, 3) := by decide +kernel
theorem dX4_bestStrike_71 : decode cX4_bestStrike 71 = .ok (.aload_n 0, 1) := by decide +kernel
theorem dX4_bestStrike_72 : decode cX4_bestStrike 72 = .ok (.getfield 10, 3) := by decide +kernel
theorem dX4_bestStrike_75 : decode cX4_bestStrike 75 = .ok (.getfield 58, 3) := by decide +kernel
theorem dX4_bestStrike_78 : decode cX4_bestStrike 78 = .ok (.iconst 0, 1) := by decide +kernel
theorem dX4_bestStrike_79 : decode cX4_bestStrike 79 = .ok (.iload_n 3, 1) := by decide +kernel
theorem dX4_bestStrike_80 : decode cX4_bestStrike 80 = .ok (.invokevirtual 65, 3) := by decide +kernel
theorem dX4_bestStrike_83 : decode cX4_bestStrike 83 = .ok (.ifCond .eq 60, 3) := by decide +kernel
theorem dX4_bestStrike_86 : decode cX4_bestStrike 86 = .ok (.aload_n 0, 1) := by decide +kernel
theorem dX4_bestStrike_87 : decode cX4_bestStrike 87 = .ok (.getfield 16, 3) := by decide +kernel
theorem dX4_bestStrike_90 : decode cX4_bestStrike 90 = .ok (.aload_n 0, 1) := by decide +kernel
theorem dX4_bestStrike_91 : decode cX4_bestStrike 91 = .ok (.getfield 10, 3) := by decide +kernel
theorem dX4_bestStrike_94 : decode cX4_bestStrike 94 = .ok (.getfield 58, 3) := by decide +kernel
theorem dX4_bestStrike_97 : decode cX4_bestStrike 97 = .ok (.iconst 0, 1) := by decide +kernel
theorem dX4_bestStrike_98 : decode cX4_bestStrike 98 = .ok (.iload_n 3, 1) := by decide +kernel
theorem dX4_bestStrike_99 : decode cX4_bestStrike 99 = .ok (.invokevirtual 65, 3) := by decide +kernel
theorem dX4_bestStrike_102 : decode cX4_bestStrike 102 = .ok (.ifCond .eq 41, 3) := by decide +kernel
theorem dX4_bestStrike_105 : decode cX4_bestStrike 105 = .ok (.aload_n 0, 1) := by decide +kernel
theorem dX4_bestStrike_106 : decode cX4_bestStrike 106 = .ok (.getfield 16, 3) := by decide +kernel
theorem dX4_bestStrike_109 : decode cX4_bestStrike 109 = .ok (.aload_n 0, 1) := by decide +kernel
theorem dX4_bestStrike_110 : decode cX4_bestStrike 110 = .ok (.getfield 10, 3) := by decide +kernel
theorem dX4_bestStrike_113 : decode cX4_bestStrike 113 = .ok (.getfield 58, 3) := by decide +kernel
theorem dX4_bestStrike_116 : decode cX4_bestStrike 116 = .ok (.invokevirtual 120, 3) := by decide +kernel
theorem dX4_bestStrike_119 : decode cX4_bestStrike 119 = .ok (.aload_n 0, 1) := by decide +kernel
theorem dX4_bestStrike_120 : decode cX4_bestStrike 120 = .ok (.getfield 16, 3) := by decide +kernel
theorem dX4_bestStrike_123 : decode cX4_bestStrike 123 = .ok (.iload_n 3, 1) := by decide +kernel
theorem dX4_bestStrike_124 : decode cX4_bestStrike 124 = .ok (.invokevirtual 120, 3) := by decide +kernel
theorem dX4_bestStrike_127 : decode cX4_bestStrike 127 = .ok (.invokevirtual 154, 3) := by decide +kernel
theorem dX4_bestStrike_130 : decode cX4_bestStrike 130 = .ok (.istore 4, 2) := by decide +kernel
theorem dX4_bestStrike_132 : decode cX4_bestStrike 132 = .ok (.iload 4, 2) := by decide +kernel
theorem dX4_bestStrike_134 : decode cX4_bestStrike 134 = .ok (.iload_n 2, 1) := by decide +kernel
theorem dX4_bestStrike_135 : decode cX4_bestStrike 135 = .ok (.if_icmp .le 8, 3) := by decide +kernel
theorem dX4_bestStrike_138 : decode cX4_bestStrike 138 = .ok (.iload_n 3, 1) := by decide +kernel
theorem dX4_bestStrike_139 : decode cX4_bestStrike 139 = .ok (.istore_n 1, 1) := by decide +kernel
theorem dX4_bestStrike_140 : decode cX4_bestStrike 140 = .ok (.iload 4, 2) := by decide +kernel
theorem dX4_bestStrike_142 : decode cX4_bestStrike 142 = .ok (.istore_n 2, 1) := by decide +kernel
theorem dX4_bestStrike_143 : decode cX4_bestStrike 143 = .ok (.iinc 3 1, 3) := by decide +kernel
theorem dX4_bestStrike_146 : decode cX4_bestStrike 146 = .ok (.goto (-108), 3) := by decide +kernel
theorem dX4_bestStrike_149 : decode cX4_bestStrike 149 = .ok (.iload_n 1, 1) := by decide +kernel
theorem dX4_bestStrike_150 : decode cX4_bestStrike 150 = .ok (.ireturn, 1) := by decide +kernel
theorem dX4_standing_0 : decode cX4_standing 0 = .ok (.aload_n 0, 1) := by decide +kernel
theorem dX4_standing_1 : decode cX4_standing 1 = .ok (.getfield 10, 3) := by decide +kernel
theorem dX4_standing_4 : decode cX4_standing 4 = .ok (.iconst 0, 1) := by decide +kernel
theorem dX4_standing_5 : decode cX4_standing 5 = .ok (.invokevirtual 158, 3) := by decide +kernel
theorem dX4_standing_8 : decode cX4_standing 8 = .ok (.istore_n 1, 1) := by decide +kernel
theorem dX4_standing_9 : decode cX4_standing 9 = .ok (.iload_n 1, 1) := by decide +kernel
theorem dX4_standing_10 : decode cX4_standing 10 = .ok (.aload_n 0, 1) := by decide +kernel
theorem dX4_standing_11 : decode cX4_standing 11 = .ok (.getfield 10, 3) := by decide +kernel
theorem dX4_standing_14 : decode cX4_standing 14 = .ok (.iconst 1, 1) := by decide +kernel
theorem dX4_standing_15 : decode cX4_standing 15 = .ok (.invokevirtual 158, 3) := by decide +kernel
theorem dX4_standing_18 : decode cX4_standing 18 = .ok (.iadd, 1) := by decide +kernel
theorem dX4_standing_19 : decode cX4_standing 19 = .ok (.istore_n 2, 1) := by decide +kernel
theorem dX4_standing_20 : decode cX4_standing 20 = .ok (.iload_n 2, 1) := by decide +kernel
theorem dX4_standing_21 : decode cX4_standing 21 = .ok (.ifCond .gt 7, 3) := by decide +kernel
theorem dX4_standing_24 : decode cX4_standing 24 = .ok (.ldc2_w 161, 3) := by decide +kernel
theorem dX4_standing_27 : decode cX4_standing 27 = .ok (.dreturn, 1) := by decide +kernel
theorem dX4_standing_28 : decode cX4_standing 28 = .ok (.iload_n 1, 1) := by decide +kernel
theorem dX4_standing_29 : decode cX4_standing 29 = .ok (.i2d, 1) := by decide +kernel
theorem dX4_standing_30 : decode cX4_standing 30 = .ok (.iload_n 2, 1) := by decide +kernel
theorem dX4_standing_31 : decode cX4_standing 31 = .ok (.i2d, 1) := by decide +kernel
theorem dX4_standing_32 : decode cX4_standing 32 = .ok (.ddiv, 1) := by decide +kernel
theorem dX4_standing_33 : decode cX4_standing 33 = .ok (.dreturn, 1) := by decide +kernel
theorem dX4_digest_0 : decode cX4_digest 0 = .ok (.ldc2_w 163, 3) := by decide +kernel
theorem dX4_digest_3 : decode cX4_digest 3 = .ok (.lstore_n 1, 1) := by decide +kernel
theorem dX4_digest_4 : decode cX4_digest 4 = .ok (.iconst 0, 1) := by decide +kernel
theorem dX4_digest_5 : decode cX4_digest 5 = .ok (.istore_n 3, 1) := by decide +kernel
theorem dX4_digest_6 : decode cX4_digest 6 = .ok (.iload_n 3, 1) := by decide +kernel
theorem dX4_digest_7 : decode cX4_digest 7 = .ok (.bipush 12, 2) := by decide +kernel
theorem dX4_digest_9 : decode cX4_digest 9 = .ok (.if_icmp .gt 20, 3) := by decide +kernel
theorem dX4_digest_12 : decode cX4_digest 12 = .ok (.lload_n 1, 1) := by decide +kernel
theorem dX4_digest_13 : decode cX4_digest 13 = .ok (.aload_n 0, 1) := by decide +kernel
theorem dX4_digest_14 : decode cX4_digest 14 = .ok (.iload_n 3, 1) := by decide +kernel
theorem dX4_digest_15 : decode cX4_digest 15 = .ok (.invokevirtual 138, 3) := by decide +kernel
theorem dX4_digest_18 : decode cX4_digest 18 = .ok (.i2l, 1) := by decide +kernel
theorem dX4_digest_19 : decode cX4_digest 19 = .ok (.invokestatic 165, 3) := by decide +kernel
theorem dX4_digest_22 : decode cX4_digest 22 = .ok (.lstore_n 1, 1) := by decide +kernel
theorem dX4_digest_23 : decode cX4_digest 23 = .ok (.iinc 3 1, 3) := by decide +kernel
theorem dX4_digest_26 : decode cX4_digest 26 = .ok (.goto (-20), 3) := by decide +kernel
theorem dX4_digest_29 : decode cX4_digest 29 = .ok (.iconst 0, 1) := by decide +kernel
theorem dX4_digest_30 : decode cX4_digest 30 = .ok (.istore_n 3, 1) := by decide +kernel
theorem dX4_digest_31 : decode cX4_digest 31 = .ok (.iload_n 3, 1) := by decide +kernel
theorem dX4_digest_32 : decode cX4_digest 32 = .ok (.aload_n 0, 1) := by decide +kernel
theorem dX4_digest_33 : decode cX4_digest 33 = .ok (.getfield 10, 3) := by decide +kernel
theorem dX4_digest_36 : decode cX4_digest 36 = .ok (.getfield 42, 3) := by decide +kernel
theorem dX4_digest_39 : decode cX4_digest 39 = .ok (.if_icmp .ge 40, 3) := by decide +kernel
theorem dX4_digest_42 : decode cX4_digest 42 = .ok (.aload_n 0, 1) := by decide +kernel
theorem dX4_digest_43 : decode cX4_digest 43 = .ok (.lload_n 1, 1) := by decide +kernel
theorem dX4_digest_44 : decode cX4_digest 44 = .ok (.iload_n 3, 1) := by decide +kernel
theorem dX4_digest_45 : decode cX4_digest 45 = .ok (.invokevirtual 169, 3) := by decide +kernel
theorem dX4_digest_48 : decode cX4_digest 48 = .ok (.lstore_n 1, 1) := by decide +kernel
theorem dX4_digest_49 : decode cX4_digest 49 = .ok (.aload_n 0, 1) := by decide +kernel
theorem dX4_digest_50 : decode cX4_digest 50 = .ok (.lload_n 1, 1) := by decide +kernel
theorem dX4_digest_51 : decode cX4_digest 51 = .ok (.iconst 0, 1) := by decide +kernel
theorem dX4_digest_52 : decode cX4_digest 52 = .ok (.iload_n 3, 1) := by decide +kernel
theorem dX4_digest_53 : decode cX4_digest 53 = .ok (.invokevirtual 173, 3) := by decide +kernel
theorem dX4_digest_56 : decode cX4_digest 56 = .ok (.lstore_n 1, 1) := by decide +kernel
theorem dX4_digest_57 : decode cX4_digest 57 = .ok (.aload_n 0, 1) := by decide +kernel
theorem dX4_digest_58 : decode cX4_digest 58 = .ok (.lload_n 1, 1) := by decide +kernel
theorem dX4_digest_59 : decode cX4_digest 59 = .ok (.iconst 2, 1) := by decide +kernel
theorem dX4_digest_60 : decode cX4_digest 60 = .ok (.iload_n 3, 1) := by decide +kernel
theorem dX4_digest_61 : decode cX4_digest 61 = .ok (.invokevirtual 173, 3) := by decide +kernel
theorem dX4_digest_64 : decode cX4_digest 64 = .ok (.lstore_n 1, 1) := by decide +kernel
theorem dX4_digest_65 : decode cX4_digest 65 = .ok (.aload_n 0, 1) := by decide +kernel
theorem dX4_digest_66 : decode cX4_digest 66 = .ok (.lload_n 1, 1) := by decide +kernel
theorem dX4_digest_67 : decode cX4_digest 67 = .ok (.iconst 3, 1) := by decide +kernel
theorem dX4_digest_68 : decode cX4_digest 68 = .ok (.iload_n 3, 1) := by decide +kernel
theorem dX4_digest_69 : decode cX4_digest 69 = .ok (.invokevirtual 173, 3) := by decide +kernel
theorem dX4_digest_72 : decode cX4_digest 72 = .ok (.lstore_n 1, 1) := by decide +kernel
theorem dX4_digest_73 : decode cX4_digest 73 = .ok (.iinc 3 1, 3) := by decide +kernel
theorem dX4_digest_76 : decode cX4_digest 76 = .ok (.goto (-45), 3) := by decide +kernel
theorem dX4_digest_79 : decode cX4_digest 79 = .ok (.iconst 0, 1) := by decide +kernel
theorem dX4_digest_80 : decode cX4_digest 80 = .ok (.istore_n 3, 1) := by decide +kernel
theorem dX4_digest_81 : decode cX4_digest 81 = .ok (.iload_n 3, 1) := by decide +kernel
theorem dX4_digest_82 : decode cX4_digest 82 = .ok (.bipush 10, 2) := by decide +kernel
theorem dX4_digest_84 : decode cX4_digest 84 = .ok (.if_icmp .ge 26, 3) := by decide +kernel
theorem dX4_digest_87 : decode cX4_digest 87 = .ok (.lload_n 1, 1) := by decide +kernel
theorem dX4_digest_88 : decode cX4_digest 88 = .ok (.aload_n 0, 1) := by decide +kernel
theorem dX4_digest_89 : decode cX4_digest 89 = .ok (.getfield 10, 3) := by decide +kernel
theorem dX4_digest_92 : decode cX4_digest 92 = .ok (.getfield 129, 3) := by decide +kernel
theorem dX4_digest_95 : decode cX4_digest 95 = .ok (.iload_n 3, 1) := by decide +kernel
theorem dX4_digest_96 : decode cX4_digest 96 = .ok (.invokevirtual 133, 3) := by decide +kernel
theorem dX4_digest_99 : decode cX4_digest 99 = .ok (.i2l, 1) := by decide +kernel
theorem dX4_digest_100 : decode cX4_digest 100 = .ok (.invokestatic 165, 3) := by decide +kernel
theorem dX4_digest_103 : decode cX4_digest 103 = .ok (.lstore_n 1, 1) := by decide +kernel
theorem dX4_digest_104 : decode cX4_digest 104 = .ok (.iinc 3 1, 3) := by decide +kernel
theorem dX4_digest_107 : decode cX4_digest 107 = .ok (.goto (-26), 3) := by decide +kernel
theorem dX4_digest_110 : decode cX4_digest 110 = .ok (.aload_n 0, 1) := by decide +kernel
theorem dX4_digest_111 : decode cX4_digest 111 = .ok (.lload_n 1, 1) := by decide +kernel
theorem dX4_digest_112 : decode cX4_digest 112 = .ok (.iconst 1, 1) := by decide +kernel
theorem dX4_digest_113 : decode cX4_digest 113 = .ok (.iconst 5, 1) := by decide +kernel
theorem dX4_digest_114 : decode cX4_digest 114 = .ok (.invokevirtual 173, 3) := by decide +kernel
theorem dX4_digest_117 : decode cX4_digest 117 = .ok (.lstore_n 1, 1) := by decide +kernel
theorem dX4_digest_118 : decode cX4_digest 118 = .ok (.aload_n 0, 1) := by decide +kernel
theorem dX4_digest_119 : decode cX4_digest 119 = .ok (.lload_n 1, 1) := by decide +kernel
theorem dX4_digest_120 : decode cX4_digest 120 = .ok (.invokevirtual 177, 3) := by decide +kernel
theorem dX4_digest_123 : decode cX4_digest 123 = .ok (.lstore_n 1, 1) := by decide +kernel
theorem dX4_digest_124 : decode cX4_digest 124 = .ok (.lload_n 1, 1) := by decide +kernel
theorem dX4_digest_125 : decode cX4_digest 125 = .ok (.aload_n 0, 1) := by decide +kernel
theorem dX4_digest_126 : decode cX4_digest 126 = .ok (.invokevirtual 181, 3) := by decide +kernel
theorem dX4_digest_129 : decode cX4_digest 129 = .ok (.i2l, 1) := by decide +kernel
theorem dX4_digest_130 : decode cX4_digest 130 = .ok (.invokestatic 165, 3) := by decide +kernel
theorem dX4_digest_133 : decode cX4_digest 133 = .ok (.lstore_n 1, 1) := by decide +kernel
theorem dX4_digest_134 : decode cX4_digest 134 = .ok (.lload_n 1, 1) := by decide +kernel
theorem dX4_digest_135 : decode cX4_digest 135 = .ok (.aload_n 0, 1) := by decide +kernel
theorem dX4_digest_136 : decode cX4_digest 136 = .ok (.invokevirtual 184, 3) := by decide +kernel
theorem dX4_digest_139 : decode cX4_digest 139 = .ok (.invokestatic 188, 3) := by decide +kernel
theorem dX4_digest_142 : decode cX4_digest 142 = .ok (.invokestatic 165, 3) := by decide +kernel
theorem dX4_digest_145 : decode cX4_digest 145 = .ok (.lstore_n 1, 1) := by decide +kernel
theorem dX4_digest_146 : decode cX4_digest 146 = .ok (.lload_n 1, 1) := by decide +kernel
theorem dX4_digest_147 : decode cX4_digest 147 = .ok (.aload_n 0, 1) := by decide +kernel
theorem dX4_digest_148 : decode cX4_digest 148 = .ok (.getfield 30, 3) := by decide +kernel
theorem dX4_digest_151 : decode cX4_digest 151 = .ok (.getfield 89, 3) := by decide +kernel
theorem dX4_digest_154 : decode cX4_digest 154 = .ok (.i2l, 1) := by decide +kernel
theorem dX4_digest_155 : decode cX4_digest 155 = .ok (.invokestatic 165, 3) := by decide +kernel
theorem dX4_digest_158 : decode cX4_digest 158 = .ok (.lstore_n 1, 1) := by decide +kernel
theorem dX4_digest_159 : decode cX4_digest 159 = .ok (.iconst 0, 1) := by decide +kernel
theorem dX4_digest_160 : decode cX4_digest 160 = .ok (.istore_n 3, 1) := by decide +kernel
theorem dX4_digest_161 : decode cX4_digest 161 = .ok (.iload_n 3, 1) := by decide +kernel
theorem dX4_digest_162 : decode cX4_digest 162 = .ok (.aload_n 0, 1) := by decide +kernel
theorem dX4_digest_163 : decode cX4_digest 163 = .ok (.getfield 30, 3) := by decide +kernel
theorem dX4_digest_166 : decode cX4_digest 166 = .ok (.getfield 89, 3) := by decide +kernel
theorem dX4_digest_169 : decode cX4_digest 169 = .ok (.if_icmp .ge 23, 3) := by decide +kernel
theorem dX4_digest_172 : decode cX4_digest 172 = .ok (.lload_n 1, 1) := by decide +kernel
theorem dX4_digest_173 : decode cX4_digest 173 = .ok (.aload_n 0, 1) := by decide +kernel
theorem dX4_digest_174 : decode cX4_digest 174 = .ok (.getfield 30, 3) := by decide +kernel
theorem dX4_digest_177 : decode cX4_digest 177 = .ok (.iload_n 3, 1) := by decide +kernel
theorem dX4_digest_178 : decode cX4_digest 178 = .ok (.invokevirtual 192, 3) := by decide +kernel
theorem dX4_digest_181 : decode cX4_digest 181 = .ok (.i2l, 1) := by decide +kernel
theorem dX4_digest_182 : decode cX4_digest 182 = .ok (.invokestatic 165, 3) := by decide +kernel
theorem dX4_digest_185 : decode cX4_digest 185 = .ok (.lstore_n 1, 1) := by decide +kernel
theorem dX4_digest_186 : decode cX4_digest 186 = .ok (.iinc 3 1, 3) := by decide +kernel
theorem dX4_digest_189 : decode cX4_digest 189 = .ok (.goto (-28), 3) := by decide +kernel
theorem dX4_digest_192 : decode cX4_digest 192 = .ok (.lload_n 1, 1) := by decide +kernel
theorem dX4_digest_193 : decode cX4_digest 193 = .ok (.lreturn, 1) := by decide +kernel
theorem dX4_isWithin_0 : decode cX4_isWithin 0 = .ok (.iload_n 0, 1) := by decide +kernel
theorem dX4_isWithin_1 : decode cX4_isWithin 1 = .ok (.iload_n 1, 1) := by decide +kernel
theorem dX4_isWithin_2 : decode cX4_isWithin 2 = .ok (.if_icmp .lt 12, 3) := by decide +kernel
theorem dX4_isWithin_5 : decode cX4_isWithin 5 = .ok (.iload_n 0, 1) := by decide +kernel
theorem dX4_isWithin_6 : decode cX4_isWithin 6 = .ok (.iload_n 2, 1) := by decide +kernel
theorem dX4_isWithin_7 : decode cX4_isWithin 7 = .ok (.if_icmp .gt 7, 3) := by decide +kernel
theorem dX4_isWithin_10 : decode cX4_isWithin 10 = .ok (.iconst 1, 1) := by decide +kernel
theorem dX4_isWithin_11 : decode cX4_isWithin 11 = .ok (.goto 4, 3) := by decide +kernel
theorem dX4_isWithin_14 : decode cX4_isWithin 14 = .ok (.iconst 0, 1) := by decide +kernel
theorem dX4_isWithin_15 : decode cX4_isWithin 15 = .ok (.ireturn, 1) := by decide +kernel
theorem dX4_requireFighter_0 : decode cX4_requireFighter 0 = .ok (.aload_n 0, 1) := by decide +kernel
theorem dX4_requireFighter_1 : decode cX4_requireFighter 1 = .ok (.getfield 10, 3) := by decide +kernel
theorem dX4_requireFighter_4 : decode cX4_requireFighter 4 = .ok (.iload_n 1, 1) := by decide +kernel
theorem dX4_requireFighter_5 : decode cX4_requireFighter 5 = .ok (.invokevirtual 141, 3) := by decide +kernel
theorem dX4_requireFighter_8 : decode cX4_requireFighter 8 = .ok (.ifCond .ne 13, 3) := by decide +kernel
theorem dX4_requireFighter_11 : decode cX4_requireFighter 11 = .ok (.new 195, 3) := by decide +kernel
theorem dX4_requireFighter_14 : decode cX4_requireFighter 14 = .ok (.dup, 1) := by decide +kernel
theorem dX4_requireFighter_15 : decode cX4_requireFighter 15 = .ok (.ldc 197, 2) := by decide +kernel
theorem dX4_requireFighter_17 : decode cX4_requireFighter 17 = .ok (.invokespecial 199, 3) := by decide +kernel
theorem dX4_requireFighter_20 : decode cX4_requireFighter 20 = .ok (.athrow, 1) := by decide +kernel
theorem dX4_requireFighter_21 : decode cX4_requireFighter 21 = .ok (.return_, 1) := by decide +kernel
theorem dX4_requireArgument_0 : decode cX4_requireArgument 0 = .ok (.iload_n 0, 1) := by decide +kernel
theorem dX4_requireArgument_1 : decode cX4_requireArgument 1 = .ok (.ifCond .ne 13, 3) := by decide +kernel
theorem dX4_requireArgument_4 : decode cX4_requireArgument 4 = .ok (.new 202, 3) := by decide +kernel
theorem dX4_requireArgument_7 : decode cX4_requireArgument 7 = .ok (.dup, 1) := by decide +kernel
theorem dX4_requireArgument_8 : decode cX4_requireArgument 8 = .ok (.ldc 204, 2) := by decide +kernel
theorem dX4_requireArgument_10 : decode cX4_requireArgument 10 = .ok (.invokespecial 206, 3) := by decide +kernel
theorem dX4_requireArgument_13 : decode cX4_requireArgument 13 = .ok (.athrow, 1) := by decide +kernel
theorem dX4_requireArgument_14 : decode cX4_requireArgument 14 = .ok (.return_, 1) := by decide +kernel
theorem dX4_requireState_0 : decode cX4_requireState 0 = .ok (.iload_n 0, 1) := by decide +kernel
theorem dX4_requireState_1 : decode cX4_requireState 1 = .ok (.ifCond .ne 13, 3) := by decide +kernel
theorem dX4_requireState_4 : decode cX4_requireState 4 = .ok (.new 207, 3) := by decide +kernel
theorem dX4_requireState_7 : decode cX4_requireState 7 = .ok (.dup, 1) := by decide +kernel
theorem dX4_requireState_8 : decode cX4_requireState 8 = .ok (.ldc 209, 2) := by decide +kernel
theorem dX4_requireState_10 : decode cX4_requireState 10 = .ok (.invokespecial 211, 3) := by decide +kernel
theorem dX4_requireState_13 : decode cX4_requireState 13 = .ok (.athrow, 1) := by decide +kernel
theorem dX4_requireState_14 : decode cX4_requireState 14 = .ok (.return_, 1) := by decide +kernel
theorem dX4_save_0 : decode cX4_save 0 = .ok (.aload_n 0, 1) := by decide +kernel
theorem dX4_save_1 : decode cX4_save 1 = .ok (.getfield 23, 3) := by decide +kernel
theorem dX4_save_4 : decode cX4_save 4 = .ok (.aload_n 0, 1) := by decide +kernel
theorem dX4_save_5 : decode cX4_save 5 = .ok (.getfield 19, 3) := by decide +kernel
theorem dX4_save_8 : decode cX4_save 8 = .ok (.arraylength, 1) := by decide +kernel
theorem dX4_save_9 : decode cX4_save 9 = .ok (.if_icmp .lt 7, 3) := by decide +kernel
theorem dX4_save_12 : decode cX4_save 12 = .ok (.aload_n 0, 1) := by decide +kernel
theorem dX4_save_13 : decode cX4_save 13 = .ok (.invokevirtual 212, 3) := by decide +kernel
theorem dX4_save_16 : decode cX4_save 16 = .ok (.aload_n 0, 1) := by decide +kernel
theorem dX4_save_17 : decode cX4_save 17 = .ok (.getfield 23, 3) := by decide +kernel
theorem dX4_save_20 : decode cX4_save 20 = .ok (.ifCond .lt 41, 3) := by decide +kernel
theorem dX4_save_23 : decode cX4_save 23 = .ok (.aload_n 0, 1) := by decide +kernel
theorem dX4_save_24 : decode cX4_save 24 = .ok (.getfield 23, 3) := by decide +kernel
theorem dX4_save_27 : decode cX4_save 27 = .ok (.aload_n 0, 1) := by decide +kernel
theorem dX4_save_28 : decode cX4_save 28 = .ok (.getfield 19, 3) := by decide +kernel
theorem dX4_save_31 : decode cX4_save 31 = .ok (.arraylength, 1) := by decide +kernel
theorem dX4_save_32 : decode cX4_save 32 = .ok (.if_icmp .ge 29, 3) := by decide +kernel
theorem dX4_save_35 : decode cX4_save 35 = .ok (.aload_n 0, 1) := by decide +kernel
theorem dX4_save_36 : decode cX4_save 36 = .ok (.getfield 19, 3) := by decide +kernel
theorem dX4_save_39 : decode cX4_save 39 = .ok (.aload_n 0, 1) := by decide +kernel
theorem dX4_save_40 : decode cX4_save 40 = .ok (.getfield 23, 3) := by decide +kernel
theorem dX4_save_43 : decode cX4_save 43 = .ok (.aaload, 1) := by decide +kernel
theorem dX4_save_44 : decode cX4_save 44 = .ok (.aload_n 0, 1) := by decide +kernel
theorem dX4_save_45 : decode cX4_save 45 = .ok (.getfield 10, 3) := by decide +kernel
theorem dX4_save_48 : decode cX4_save 48 = .ok (.invokevirtual 112, 3) := by decide +kernel
theorem dX4_save_51 : decode cX4_save 51 = .ok (.aload_n 0, 1) := by decide +kernel
theorem dX4_save_52 : decode cX4_save 52 = .ok (.dup, 1) := by decide +kernel
theorem dX4_save_53 : decode cX4_save 53 = .ok (.getfield 23, 3) := by decide +kernel
theorem dX4_save_56 : decode cX4_save 56 = .ok (.iconst 1, 1) := by decide +kernel
theorem dX4_save_57 : decode cX4_save 57 = .ok (.iadd, 1) := by decide +kernel
theorem dX4_save_58 : decode cX4_save 58 = .ok (.putfield 23, 3) := by decide +kernel
theorem dX4_save_61 : decode cX4_save 61 = .ok (.return_, 1) := by decide +kernel
theorem dX4_dropOldest_0 : decode cX4_dropOldest 0 = .ok (.aload_n 0, 1) := by decide +kernel
theorem dX4_dropOldest_1 : decode cX4_dropOldest 1 = .ok (.getfield 19, 3) := by decide +kernel
theorem dX4_dropOldest_4 : decode cX4_dropOldest 4 = .ok (.iconst 0, 1) := by decide +kernel
theorem dX4_dropOldest_5 : decode cX4_dropOldest 5 = .ok (.aaload, 1) := by decide +kernel
theorem dX4_dropOldest_6 : decode cX4_dropOldest 6 = .ok (.astore_n 1, 1) := by decide +kernel
theorem dX4_dropOldest_7 : decode cX4_dropOldest 7 = .ok (.iconst 1, 1) := by decide +kernel
theorem dX4_dropOldest_8 : decode cX4_dropOldest 8 = .ok (.istore_n 2, 1) := by decide +kernel
theorem dX4_dropOldest_9 : decode cX4_dropOldest 9 = .ok (.iload_n 2, 1) := by decide +kernel
theorem dX4_dropOldest_10 : decode cX4_dropOldest 10 = .ok (.aload_n 0, 1) := by decide +kernel
theorem dX4_dropOldest_11 : decode cX4_dropOldest 11 = .ok (.getfield 19, 3) := by decide +kernel
theorem dX4_dropOldest_14 : decode cX4_dropOldest 14 = .ok (.arraylength, 1) := by decide +kernel
theorem dX4_dropOldest_15 : decode cX4_dropOldest 15 = .ok (.if_icmp .ge 23, 3) := by decide +kernel
theorem dX4_dropOldest_18 : decode cX4_dropOldest 18 = .ok (.aload_n 0, 1) := by decide +kernel
theorem dX4_dropOldest_19 : decode cX4_dropOldest 19 = .ok (.getfield 19, 3) := by decide +kernel
theorem dX4_dropOldest_22 : decode cX4_dropOldest 22 = .ok (.iload_n 2, 1) := by decide +kernel
theorem dX4_dropOldest_23 : decode cX4_dropOldest 23 = .ok (.iconst 1, 1) := by decide +kernel
theorem dX4_dropOldest_24 : decode cX4_dropOldest 24 = .ok (.isub, 1) := by decide +kernel
theorem dX4_dropOldest_25 : decode cX4_dropOldest 25 = .ok (.aload_n 0, 1) := by decide +kernel
theorem dX4_dropOldest_26 : decode cX4_dropOldest 26 = .ok (.getfield 19, 3) := by decide +kernel
theorem dX4_dropOldest_29 : decode cX4_dropOldest 29 = .ok (.iload_n 2, 1) := by decide +kernel
theorem dX4_dropOldest_30 : decode cX4_dropOldest 30 = .ok (.aaload, 1) := by decide +kernel
theorem dX4_dropOldest_31 : decode cX4_dropOldest 31 = .ok (.aastore, 1) := by decide +kernel
theorem dX4_dropOldest_32 : decode cX4_dropOldest 32 = .ok (.iinc 2 1, 3) := by decide +kernel
theorem dX4_dropOldest_35 : decode cX4_dropOldest 35 = .ok (.goto (-26), 3) := by decide +kernel
theorem dX4_dropOldest_38 : decode cX4_dropOldest 38 = .ok (.aload_n 0, 1) := by decide +kernel
theorem dX4_dropOldest_39 : decode cX4_dropOldest 39 = .ok (.getfield 19, 3) := by decide +kernel
theorem dX4_dropOldest_42 : decode cX4_dropOldest 42 = .ok (.aload_n 0, 1) := by decide +kernel
theorem dX4_dropOldest_43 : decode cX4_dropOldest 43 = .ok (.getfield 19, 3) := by decide +kernel
theorem dX4_dropOldest_46 : decode cX4_dropOldest 46 = .ok (.arraylength, 1) := by decide +kernel
theorem dX4_dropOldest_47 : decode cX4_dropOldest 47 = .ok (.iconst 1, 1) := by decide +kernel
theorem dX4_dropOldest_48 : decode cX4_dropOldest 48 = .ok (.isub, 1) := by decide +kernel
theorem dX4_dropOldest_49 : decode cX4_dropOldest 49 = .ok (.aload_n 1, 1) := by decide +kernel
theorem dX4_dropOldest_50 : decode cX4_dropOldest 50 = .ok (.aastore, 1) := by decide +kernel
theorem dX4_dropOldest_51 : decode cX4_dropOldest 51 = .ok (.aload_n 0, 1) := by decide +kernel
theorem dX4_dropOldest_52 : decode cX4_dropOldest 52 = .ok (.aload_n 0, 1) := by decide +kernel
theorem dX4_dropOldest_53 : decode cX4_dropOldest 53 = .ok (.getfield 19, 3) := by decide +kernel
theorem dX4_dropOldest_56 : decode cX4_dropOldest 56 = .ok (.arraylength, 1) := by decide +kernel
theorem dX4_dropOldest_57 : decode cX4_dropOldest 57 = .ok (.iconst 1, 1) := by decide +kernel
theorem dX4_dropOldest_58 : decode cX4_dropOldest 58 = .ok (.isub, 1) := by decide +kernel
theorem dX4_dropOldest_59 : decode cX4_dropOldest 59 = .ok (.putfield 23, 3) := by decide +kernel
theorem dX4_dropOldest_62 : decode cX4_dropOldest 62 = .ok (.return_, 1) := by decide +kernel
theorem dX4_isOrderPossible_0 : decode cX4_isOrderPossible 0 = .ok (.aload_n 0, 1) := by decide +kernel
theorem dX4_isOrderPossible_1 : decode cX4_isOrderPossible 1 = .ok (.getfield 30, 3) := by decide +kernel
theorem dX4_isOrderPossible_4 : decode cX4_isOrderPossible 4 = .ok (.iload_n 1, 1) := by decide +kernel
theorem dX4_isOrderPossible_5 : decode cX4_isOrderPossible 5 = .ok (.invokevirtual 192, 3) := by decide +kernel
theorem dX4_isOrderPossible_8 : decode cX4_isOrderPossible 8 = .ok (.istore_n 2, 1) := by decide +kernel
theorem dX4_isOrderPossible_9 : decode cX4_isOrderPossible 9 = .ok (.aload_n 0, 1) := by decide +kernel
theorem dX4_isOrderPossible_10 : decode cX4_isOrderPossible 10 = .ok (.getfield 30, 3) := by decide +kernel
theorem dX4_isOrderPossible_13 : decode cX4_isOrderPossible 13 = .ok (.iload_n 1, 1) := by decide +kernel
theorem dX4_isOrderPossible_14 : decode cX4_isOrderPossible 14 = .ok (.iconst 1, 1) := by decide +kernel
theorem dX4_isOrderPossible_15 : decode cX4_isOrderPossible 15 = .ok (.iadd, 1) := by decide +kernel
theorem dX4_isOrderPossible_16 : decode cX4_isOrderPossible 16 = .ok (.invokevirtual 215, 3) := by decide +kernel
theorem dX4_isOrderPossible_19 : decode cX4_isOrderPossible 19 = .ok (.istore_n 3, 1) := by decide +kernel
theorem dX4_isOrderPossible_20 : decode cX4_isOrderPossible 20 = .ok (.iload_n 2, 1) := by decide +kernel
theorem dX4_isOrderPossible_21 : decode cX4_isOrderPossible 21 = .ok (.bipush 105, 2) := by decide +kernel
theorem dX4_isOrderPossible_23 : decode cX4_isOrderPossible 23 = .ok (.if_icmp .ne 12, 3) := by decide +kernel
theorem dX4_isOrderPossible_26 : decode cX4_isOrderPossible 26 = .ok (.aload_n 0, 1) := by decide +kernel
theorem dX4_isOrderPossible_27 : decode cX4_isOrderPossible 27 = .ok (.getfield 10, 3) := by decide +kernel
theorem dX4_isOrderPossible_30 : decode cX4_isOrderPossible 30 = .ok (.iload_n 3, 1) := by decide +kernel
theorem dX4_isOrderPossible_31 : decode cX4_isOrderPossible 31 = .ok (.invokevirtual 81, 3) := by decide +kernel
theorem dX4_isOrderPossible_34 : decode cX4_isOrderPossible 34 = .ok (.ireturn, 1) := by decide +kernel
theorem dX4_isOrderPossible_35 : decode cX4_isOrderPossible 35 = .ok (.iload_n 2, 1) := by decide +kernel
theorem dX4_isOrderPossible_36 : decode cX4_isOrderPossible 36 = .ok (.invokestatic 218, 3) := by decide +kernel
theorem dX4_isOrderPossible_39 : decode cX4_isOrderPossible 39 = .ok (.istore 4, 2) := by decide +kernel
theorem dX4_isOrderPossible_41 : decode cX4_isOrderPossible 41 = .ok (.iload 4, 2) := by decide +kernel
theorem dX4_isOrderPossible_43 : decode cX4_isOrderPossible 43 = .ok (.iconst (-1), 1) := by decide +kernel
theorem dX4_isOrderPossible_44 : decode cX4_isOrderPossible 44 = .ok (.if_icmp .ne 22, 3) := by decide +kernel
theorem dX4_isOrderPossible_47 : decode cX4_isOrderPossible 47 = .ok (.aload_n 0, 1) := by decide +kernel
theorem dX4_isOrderPossible_48 : decode cX4_isOrderPossible 48 = .ok (.getfield 10, 3) := by decide +kernel
theorem dX4_isOrderPossible_51 : decode cX4_isOrderPossible 51 = .ok (.getfield 58, 3) := by decide +kernel
theorem dX4_isOrderPossible_54 : decode cX4_isOrderPossible 54 = .ok (.iconst (-1), 1) := by decide +kernel
theorem dX4_isOrderPossible_55 : decode cX4_isOrderPossible 55 = .ok (.if_icmp .eq 7, 3) := by decide +kernel
theorem dX4_isOrderPossible_58 : decode cX4_isOrderPossible 58 = .ok (.iconst 1, 1) := by decide +kernel
theorem dX4_isOrderPossible_59 : decode cX4_isOrderPossible 59 = .ok (.goto 24, 3) := by decide +kernel
theorem dX4_isOrderPossible_62 : decode cX4_isOrderPossible 62 = .ok (.iconst 0, 1) := by decide +kernel
theorem dX4_isOrderPossible_63 : decode cX4_isOrderPossible 63 = .ok (.goto 20, 3) := by decide +kernel
theorem dX4_isOrderPossible_66 : decode cX4_isOrderPossible 66 = .ok (.aload_n 0, 1) := by decide +kernel
theorem dX4_isOrderPossible_67 : decode cX4_isOrderPossible 67 = .ok (.getfield 10, 3) := by decide +kernel
theorem dX4_isOrderPossible_70 : decode cX4_isOrderPossible 70 = .ok (.aload_n 0, 1) := by decide +kernel
theorem dX4_isOrderPossible_71 : decode cX4_isOrderPossible 71 = .ok (.getfield 10, 3) := by decide +kernel
theorem dX4_isOrderPossible_74 : decode cX4_isOrderPossible 74 = .ok (.getfield 58, 3) := by decide +kernel
theorem dX4_isOrderPossible_77 : decode cX4_isOrderPossible 77 = .ok (.iload 4, 2) := by decide +kernel
theorem dX4_isOrderPossible_79 : decode cX4_isOrderPossible 79 = .ok (.iload_n 3, 1) := by decide +kernel
theorem dX4_isOrderPossible_80 : decode cX4_isOrderPossible 80 = .ok (.invokevirtual 65, 3) := by decide +kernel
theorem dX4_isOrderPossible_83 : decode cX4_isOrderPossible 83 = .ok (.ireturn, 1) := by decide +kernel
theorem dX4_doOrder_0 : decode cX4_doOrder 0 = .ok (.aload_n 0, 1) := by decide +kernel
theorem dX4_doOrder_1 : decode cX4_doOrder 1 = .ok (.getfield 30, 3) := by decide +kernel
theorem dX4_doOrder_4 : decode cX4_doOrder 4 = .ok (.iload_n 1, 1) := by decide +kernel
theorem dX4_doOrder_5 : decode cX4_doOrder 5 = .ok (.invokevirtual 192, 3) := by decide +kernel
theorem dX4_doOrder_8 : decode cX4_doOrder 8 = .ok (.istore_n 2, 1) := by decide +kernel
theorem dX4_doOrder_9 : decode cX4_doOrder 9 = .ok (.aload_n 0, 1) := by decide +kernel
theorem dX4_doOrder_10 : decode cX4_doOrder 10 = .ok (.getfield 30, 3) := by decide +kernel
theorem dX4_doOrder_13 : decode cX4_doOrder 13 = .ok (.iload_n 1, 1) := by decide +kernel
theorem dX4_doOrder_14 : decode cX4_doOrder 14 = .ok (.iconst 1, 1) := by decide +kernel
theorem dX4_doOrder_15 : decode cX4_doOrder 15 = .ok (.iadd, 1) := by decide +kernel
theorem dX4_doOrder_16 : decode cX4_doOrder 16 = .ok (.invokevirtual 215, 3) := by decide +kernel
theorem dX4_doOrder_19 : decode cX4_doOrder 19 = .ok (.istore_n 3, 1) := by decide +kernel
theorem dX4_doOrder_20 : decode cX4_doOrder 20 = .ok (.iload_n 2, 1) := by decide +kernel
theorem dX4_doOrder_21 : decode cX4_doOrder 21 = .ok (.lookupswitch 67 #[(101, 57), (105, 35), (119, 47)], 35) := by decide +kernel
theorem dX4_doOrder_56 : decode cX4_doOrder 56 = .ok (.aload_n 0, 1) := by decide +kernel
theorem dX4_doOrder_57 : decode cX4_doOrder 57 = .ok (.getfield 10, 3) := by decide +kernel
theorem dX4_doOrder_60 : decode cX4_doOrder 60 = .ok (.iload_n 3, 1) := by decide +kernel
theorem dX4_doOrder_61 : decode cX4_doOrder 61 = .ok (.invokevirtual 85, 3) := by decide +kernel
theorem dX4_doOrder_64 : decode cX4_doOrder 64 = .ok (.pop, 1) := by decide +kernel
theorem dX4_doOrder_65 : decode cX4_doOrder 65 = .ok (.goto 56, 3) := by decide +kernel
theorem dX4_doOrder_68 : decode cX4_doOrder 68 = .ok (.aload_n 0, 1) := by decide +kernel
theorem dX4_doOrder_69 : decode cX4_doOrder 69 = .ok (.getfield 10, 3) := by decide +kernel
theorem dX4_doOrder_72 : decode cX4_doOrder 72 = .ok (.invokevirtual 71, 3) := by decide +kernel
theorem dX4_doOrder_75 : decode cX4_doOrder 75 = .ok (.goto 46, 3) := by decide +kernel
theorem dX4_doOrder_78 : decode cX4_doOrder 78 = .ok (.aload_n 0, 1) := by decide +kernel
theorem dX4_doOrder_79 : decode cX4_doOrder 79 = .ok (.getfield 10, 3) := by decide +kernel
theorem dX4_doOrder_82 : decode cX4_doOrder 82 = .ok (.invokevirtual 78, 3) := by decide +kernel
theorem dX4_doOrder_85 : decode cX4_doOrder 85 = .ok (.goto 36, 3) := by decide +kernel
theorem dX4_doOrder_88 : decode cX4_doOrder 88 = .ok (.aload_n 0, 1) := by decide +kernel
theorem dX4_doOrder_89 : decode cX4_doOrder 89 = .ok (.getfield 10, 3) := by decide +kernel
theorem dX4_doOrder_92 : decode cX4_doOrder 92 = .ok (.iload_n 2, 1) := by decide +kernel
theorem dX4_doOrder_93 : decode cX4_doOrder 93 = .ok (.invokestatic 218, 3) := by decide +kernel
theorem dX4_doOrder_96 : decode cX4_doOrder 96 = .ok (.iload_n 3, 1) := by decide +kernel
theorem dX4_doOrder_97 : decode cX4_doOrder 97 = .ok (.aload_n 0, 1) := by decide +kernel
theorem dX4_doOrder_98 : decode cX4_doOrder 98 = .ok (.getfield 30, 3) := by decide +kernel
theorem dX4_doOrder_101 : decode cX4_doOrder 101 = .ok (.iload_n 1, 1) := by decide +kernel
theorem dX4_doOrder_102 : decode cX4_doOrder 102 = .ok (.iconst 2, 1) := by decide +kernel
theorem dX4_doOrder_103 : decode cX4_doOrder 103 = .ok (.iadd, 1) := by decide +kernel
theorem dX4_doOrder_104 : decode cX4_doOrder 104 = .ok (.invokevirtual 215, 3) := by decide +kernel
theorem dX4_doOrder_107 : decode cX4_doOrder 107 = .ok (.aload_n 0, 1) := by decide +kernel
theorem dX4_doOrder_108 : decode cX4_doOrder 108 = .ok (.getfield 30, 3) := by decide +kernel
theorem dX4_doOrder_111 : decode cX4_doOrder 111 = .ok (.iload_n 1, 1) := by decide +kernel
theorem dX4_doOrder_112 : decode cX4_doOrder 112 = .ok (.iconst 3, 1) := by decide +kernel
theorem dX4_doOrder_113 : decode cX4_doOrder 113 = .ok (.iadd, 1) := by decide +kernel
theorem dX4_doOrder_114 : decode cX4_doOrder 114 = .ok (.invokevirtual 215, 3) := by decide +kernel
theorem dX4_doOrder_117 : decode cX4_doOrder 117 = .ok (.invokevirtual 68, 3) := by decide +kernel
theorem dX4_doOrder_120 : decode cX4_doOrder 120 = .ok (.pop, 1) := by decide +kernel
theorem dX4_doOrder_121 : decode cX4_doOrder 121 = .ok (.return_, 1) := by decide +kernel
theorem dX4_counted_0 : decode cX4_counted 0 = .ok (.iload_n 1, 1) := by decide +kernel
theorem dX4_counted_1 : decode cX4_counted 1 = .ok (.bipush 12, 2) := by decide +kernel
theorem dX4_counted_3 : decode cX4_counted 3 = .ok (.if_icmp .ne 10, 3) := by decide +kernel
theorem dX4_counted_6 : decode cX4_counted 6 = .ok (.aload_n 0, 1) := by decide +kernel
theorem dX4_counted_7 : decode cX4_counted 7 = .ok (.getfield 23, 3) := by decide +kernel
theorem dX4_counted_10 : decode cX4_counted 10 = .ok (.goto 11, 3) := by decide +kernel
theorem dX4_counted_13 : decode cX4_counted 13 = .ok (.aload_n 0, 1) := by decide +kernel
theorem dX4_counted_14 : decode cX4_counted 14 = .ok (.getfield 10, 3) := by decide +kernel
theorem dX4_counted_17 : decode cX4_counted 17 = .ok (.iload_n 1, 1) := by decide +kernel
theorem dX4_counted_18 : decode cX4_counted 18 = .ok (.invokevirtual 221, 3) := by decide +kernel
theorem dX4_counted_21 : decode cX4_counted 21 = .ok (.ireturn, 1) := by decide +kernel
theorem dX4_with_0 : decode cX4_with 0 = .ok (.ldc2_w 222, 3) := by decide +kernel
theorem dX4_with_3 : decode cX4_with 3 = .ok (.lload_n 0, 1) := by decide +kernel
theorem dX4_with_4 : decode cX4_with 4 = .ok (.lmul, 1) := by decide +kernel
theorem dX4_with_5 : decode cX4_with 5 = .ok (.lload_n 2, 1) := by decide +kernel
theorem dX4_with_6 : decode cX4_with 6 = .ok (.ladd, 1) := by decide +kernel
theorem dX4_with_7 : decode cX4_with 7 = .ok (.lreturn, 1) := by decide +kernel
theorem dX4_withFighter_0 : decode cX4_withFighter 0 = .ok (.lload_n 1, 1) := by decide +kernel
theorem dX4_withFighter_1 : decode cX4_withFighter 1 = .ok (.lstore 4, 2) := by decide +kernel
theorem dX4_withFighter_3 : decode cX4_withFighter 3 = .ok (.iconst 0, 1) := by decide +kernel
theorem dX4_withFighter_4 : decode cX4_withFighter 4 = .ok (.istore 6, 2) := by decide +kernel
theorem dX4_withFighter_6 : decode cX4_withFighter 6 = .ok (.iload 6, 2) := by decide +kernel
theorem dX4_withFighter_8 : decode cX4_withFighter 8 = .ok (.bipush 13, 2) := by decide +kernel
theorem dX4_withFighter_10 : decode cX4_withFighter 10 = .ok (.if_icmp .gt 27, 3) := by decide +kernel
theorem dX4_withFighter_13 : decode cX4_withFighter 13 = .ok (.lload 4, 2) := by decide +kernel
theorem dX4_withFighter_15 : decode cX4_withFighter 15 = .ok (.aload_n 0, 1) := by decide +kernel
theorem dX4_withFighter_16 : decode cX4_withFighter 16 = .ok (.getfield 10, 3) := by decide +kernel
theorem dX4_withFighter_19 : decode cX4_withFighter 19 = .ok (.iload_n 3, 1) := by decide +kernel
theorem dX4_withFighter_20 : decode cX4_withFighter 20 = .ok (.iload 6, 2) := by decide +kernel
theorem dX4_withFighter_22 : decode cX4_withFighter 22 = .ok (.invokevirtual 116, 3) := by decide +kernel
theorem dX4_withFighter_25 : decode cX4_withFighter 25 = .ok (.i2l, 1) := by decide +kernel
theorem dX4_withFighter_26 : decode cX4_withFighter 26 = .ok (.invokestatic 165, 3) := by decide +kernel
theorem dX4_withFighter_29 : decode cX4_withFighter 29 = .ok (.lstore 4, 2) := by decide +kernel
theorem dX4_withFighter_31 : decode cX4_withFighter 31 = .ok (.iinc 6 1, 3) := by decide +kernel
theorem dX4_withFighter_34 : decode cX4_withFighter 34 = .ok (.goto (-28), 3) := by decide +kernel
theorem dX4_withFighter_37 : decode cX4_withFighter 37 = .ok (.iconst 0, 1) := by decide +kernel
theorem dX4_withFighter_38 : decode cX4_withFighter 38 = .ok (.istore 6, 2) := by decide +kernel
theorem dX4_withFighter_40 : decode cX4_withFighter 40 = .ok (.iload 6, 2) := by decide +kernel
theorem dX4_withFighter_42 : decode cX4_withFighter 42 = .ok (.iconst 3, 1) := by decide +kernel
theorem dX4_withFighter_43 : decode cX4_withFighter 43 = .ok (.if_icmp .gt 30, 3) := by decide +kernel
theorem dX4_withFighter_46 : decode cX4_withFighter 46 = .ok (.lload 4, 2) := by decide +kernel
theorem dX4_withFighter_48 : decode cX4_withFighter 48 = .ok (.aload_n 0, 1) := by decide +kernel
theorem dX4_withFighter_49 : decode cX4_withFighter 49 = .ok (.getfield 10, 3) := by decide +kernel
theorem dX4_withFighter_52 : decode cX4_withFighter 52 = .ok (.iload_n 3, 1) := by decide +kernel
theorem dX4_withFighter_53 : decode cX4_withFighter 53 = .ok (.invokevirtual 120, 3) := by decide +kernel
theorem dX4_withFighter_56 : decode cX4_withFighter 56 = .ok (.iload 6, 2) := by decide +kernel
theorem dX4_withFighter_58 : decode cX4_withFighter 58 = .ok (.invokevirtual 124, 3) := by decide +kernel
theorem dX4_withFighter_61 : decode cX4_withFighter 61 = .ok (.i2l, 1) := by decide +kernel
theorem dX4_withFighter_62 : decode cX4_withFighter 62 = .ok (.invokestatic 165, 3) := by decide +kernel
theorem dX4_withFighter_65 : decode cX4_withFighter 65 = .ok (.lstore 4, 2) := by decide +kernel
theorem dX4_withFighter_67 : decode cX4_withFighter 67 = .ok (.iinc 6 1, 3) := by decide +kernel
theorem dX4_withFighter_70 : decode cX4_withFighter 70 = .ok (.goto (-30), 3) := by decide +kernel
theorem dX4_withFighter_73 : decode cX4_withFighter 73 = .ok (.lload 4, 2) := by decide +kernel
theorem dX4_withFighter_75 : decode cX4_withFighter 75 = .ok (.lreturn, 1) := by decide +kernel
theorem dX4_withIfDone_0 : decode cX4_withIfDone 0 = .ok (.aload_n 0, 1) := by decide +kernel
theorem dX4_withIfDone_1 : decode cX4_withIfDone 1 = .ok (.getfield 10, 3) := by decide +kernel
theorem dX4_withIfDone_4 : decode cX4_withIfDone 4 = .ok (.aload_n 0, 1) := by decide +kernel
theorem dX4_withIfDone_5 : decode cX4_withIfDone 5 = .ok (.getfield 10, 3) := by decide +kernel
theorem dX4_withIfDone_8 : decode cX4_withIfDone 8 = .ok (.getfield 58, 3) := by decide +kernel
theorem dX4_withIfDone_11 : decode cX4_withIfDone 11 = .ok (.iload_n 3, 1) := by decide +kernel
theorem dX4_withIfDone_12 : decode cX4_withIfDone 12 = .ok (.iload 4, 2) := by decide +kernel
theorem dX4_withIfDone_14 : decode cX4_withIfDone 14 = .ok (.invokevirtual 65, 3) := by decide +kernel
theorem dX4_withIfDone_17 : decode cX4_withIfDone 17 = .ok (.ifCond .ne 27, 3) := by decide +kernel
theorem dX4_withIfDone_20 : decode cX4_withIfDone 20 = .ok (.lload_n 1, 1) := by decide +kernel
theorem dX4_withIfDone_21 : decode cX4_withIfDone 21 = .ok (.lconst 0, 1) := by decide +kernel
theorem dX4_withIfDone_22 : decode cX4_withIfDone 22 = .ok (.invokestatic 165, 3) := by decide +kernel
theorem dX4_withIfDone_25 : decode cX4_withIfDone 25 = .ok (.ldc2_w 224, 3) := by decide +kernel
theorem dX4_withIfDone_28 : decode cX4_withIfDone 28 = .ok (.invokestatic 165, 3) := by decide +kernel
theorem dX4_withIfDone_31 : decode cX4_withIfDone 31 = .ok (.ldc2_w 224, 3) := by decide +kernel
theorem dX4_withIfDone_34 : decode cX4_withIfDone 34 = .ok (.invokestatic 165, 3) := by decide +kernel
theorem dX4_withIfDone_37 : decode cX4_withIfDone 37 = .ok (.ldc2_w 224, 3) := by decide +kernel
theorem dX4_withIfDone_40 : decode cX4_withIfDone 40 = .ok (.invokestatic 165, 3) := by decide +kernel
theorem dX4_withIfDone_43 : decode cX4_withIfDone 43 = .ok (.lreturn, 1) := by decide +kernel
theorem dX4_withIfDone_44 : decode cX4_withIfDone 44 = .ok (.lload_n 1, 1) := by decide +kernel
theorem dX4_withIfDone_45 : decode cX4_withIfDone 45 = .ok (.lconst 1, 1) := by decide +kernel
theorem dX4_withIfDone_46 : decode cX4_withIfDone 46 = .ok (.invokestatic 165, 3) := by decide +kernel
theorem dX4_withIfDone_49 : decode cX4_withIfDone 49 = .ok (.aload_n 0, 1) := by decide +kernel
theorem dX4_withIfDone_50 : decode cX4_withIfDone 50 = .ok (.getfield 10, 3) := by decide +kernel
theorem dX4_withIfDone_53 : decode cX4_withIfDone 53 = .ok (.iload_n 3, 1) := by decide +kernel
theorem dX4_withIfDone_54 : decode cX4_withIfDone 54 = .ok (.invokevirtual 144, 3) := by decide +kernel
theorem dX4_withIfDone_57 : decode cX4_withIfDone 57 = .ok (.i2l, 1) := by decide +kernel
theorem dX4_withIfDone_58 : decode cX4_withIfDone 58 = .ok (.invokestatic 165, 3) := by decide +kernel
theorem dX4_withIfDone_61 : decode cX4_withIfDone 61 = .ok (.lstore 5, 2) := by decide +kernel
theorem dX4_withIfDone_63 : decode cX4_withIfDone 63 = .ok (.aload_n 0, 1) := by decide +kernel
theorem dX4_withIfDone_64 : decode cX4_withIfDone 64 = .ok (.getfield 16, 3) := by decide +kernel
theorem dX4_withIfDone_67 : decode cX4_withIfDone 67 = .ok (.aload_n 0, 1) := by decide +kernel
theorem dX4_withIfDone_68 : decode cX4_withIfDone 68 = .ok (.getfield 10, 3) := by decide +kernel
theorem dX4_withIfDone_71 : decode cX4_withIfDone 71 = .ok (.invokevirtual 112, 3) := by decide +kernel
theorem dX4_withIfDone_74 : decode cX4_withIfDone 74 = .ok (.aload_n 0, 1) := by decide +kernel
theorem dX4_withIfDone_75 : decode cX4_withIfDone 75 = .ok (.getfield 16, 3) := by decide +kernel
theorem dX4_withIfDone_78 : decode cX4_withIfDone 78 = .ok (.iload_n 3, 1) := by decide +kernel
theorem dX4_withIfDone_79 : decode cX4_withIfDone 79 = .ok (.iload 4, 2) := by decide +kernel
theorem dX4_withIfDone_81 : decode cX4_withIfDone 81 = .ok (.iconst 0, 1) := by decide +kernel
theorem dX4_withIfDone_82 : decode cX4_withIfDone 82 = .ok (.iconst 1, 1) := by decide +kernel
theorem dX4_withIfDone_83 : decode cX4_withIfDone 83 = .ok (.invokevirtual 68, 3) := by decide +kernel
theorem dX4_withIfDone_86 : decode cX4_withIfDone 86 = .ok (.iconst (-1), 1) := by decide +kernel
theorem dX4_withIfDone_87 : decode cX4_withIfDone 87 = .ok (.if_icmp .ne 7, 3) := by decide +kernel
theorem dX4_withIfDone_90 : decode cX4_withIfDone 90 = .ok (.iconst 1, 1) := by decide +kernel
theorem dX4_withIfDone_91 : decode cX4_withIfDone 91 = .ok (.goto 4, 3) := by decide +kernel
theorem dX4_withIfDone_94 : decode cX4_withIfDone 94 = .ok (.iconst 0, 1) := by decide +kernel
theorem dX4_withIfDone_95 : decode cX4_withIfDone 95 = .ok (.istore 7, 2) := by decide +kernel
theorem dX4_withIfDone_97 : decode cX4_withIfDone 97 = .ok (.lload 5, 2) := by decide +kernel
theorem dX4_withIfDone_99 : decode cX4_withIfDone 99 = .ok (.iload 7, 2) := by decide +kernel
theorem dX4_withIfDone_101 : decode cX4_withIfDone 101 = .ok (.ifCond .eq 7, 3) := by decide +kernel
theorem dX4_withIfDone_104 : decode cX4_withIfDone 104 = .ok (.lconst 0, 1) := by decide +kernel
theorem dX4_withIfDone_105 : decode cX4_withIfDone 105 = .ok (.goto 4, 3) := by decide +kernel
theorem dX4_withIfDone_108 : decode cX4_withIfDone 108 = .ok (.lconst 1, 1) := by decide +kernel
theorem dX4_withIfDone_109 : decode cX4_withIfDone 109 = .ok (.invokestatic 165, 3) := by decide +kernel
theorem dX4_withIfDone_112 : decode cX4_withIfDone 112 = .ok (.aload_n 0, 1) := by decide +kernel
theorem dX4_withIfDone_113 : decode cX4_withIfDone 113 = .ok (.getfield 16, 3) := by decide +kernel
theorem dX4_withIfDone_116 : decode cX4_withIfDone 116 = .ok (.getfield 58, 3) := by decide +kernel
theorem dX4_withIfDone_119 : decode cX4_withIfDone 119 = .ok (.i2l, 1) := by decide +kernel
theorem dX4_withIfDone_120 : decode cX4_withIfDone 120 = .ok (.invokestatic 165, 3) := by decide +kernel
theorem dX4_withIfDone_123 : decode cX4_withIfDone 123 = .ok (.lreturn, 1) := by decide +kernel
theorem dX4_withIfEnded_0 : decode cX4_withIfEnded 0 = .ok (.aload_n 0, 1) := by decide +kernel
theorem dX4_withIfEnded_1 : decode cX4_withIfEnded 1 = .ok (.getfield 16, 3) := by decide +kernel
theorem dX4_withIfEnded_4 : decode cX4_withIfEnded 4 = .ok (.aload_n 0, 1) := by decide +kernel
theorem dX4_withIfEnded_5 : decode cX4_withIfEnded 5 = .ok (.getfield 10, 3) := by decide +kernel
theorem dX4_withIfEnded_8 : decode cX4_withIfEnded 8 = .ok (.invokevirtual 112, 3) := by decide +kernel
theorem dX4_withIfEnded_11 : decode cX4_withIfEnded 11 = .ok (.lload_n 1, 1) := by decide +kernel
theorem dX4_withIfEnded_12 : decode cX4_withIfEnded 12 = .ok (.aload_n 0, 1) := by decide +kernel
theorem dX4_withIfEnded_13 : decode cX4_withIfEnded 13 = .ok (.getfield 16, 3) := by decide +kernel
theorem dX4_withIfEnded_16 : decode cX4_withIfEnded 16 = .ok (.getfield 58, 3) := by decide +kernel
theorem dX4_withIfEnded_19 : decode cX4_withIfEnded 19 = .ok (.i2l, 1) := by decide +kernel
theorem dX4_withIfEnded_20 : decode cX4_withIfEnded 20 = .ok (.invokestatic 165, 3) := by decide +kernel
theorem dX4_withIfEnded_23 : decode cX4_withIfEnded 23 = .ok (.lstore_n 3, 1) := by decide +kernel
theorem dX4_withIfEnded_24 : decode cX4_withIfEnded 24 = .ok (.iconst 1, 1) := by decide +kernel
theorem dX4_withIfEnded_25 : decode cX4_withIfEnded 25 = .ok (.istore 5, 2) := by decide +kernel
theorem dX4_withIfEnded_27 : decode cX4_withIfEnded 27 = .ok (.iload 5, 2) := by decide +kernel
theorem dX4_withIfEnded_29 : decode cX4_withIfEnded 29 = .ok (.bipush 12, 2) := by decide +kernel
theorem dX4_withIfEnded_31 : decode cX4_withIfEnded 31 = .ok (.if_icmp .gt 29, 3) := by decide +kernel
theorem dX4_withIfEnded_34 : decode cX4_withIfEnded 34 = .ok (.aload_n 0, 1) := by decide +kernel
theorem dX4_withIfEnded_35 : decode cX4_withIfEnded 35 = .ok (.getfield 16, 3) := by decide +kernel
theorem dX4_withIfEnded_38 : decode cX4_withIfEnded 38 = .ok (.invokevirtual 78, 3) := by decide +kernel
theorem dX4_withIfEnded_41 : decode cX4_withIfEnded 41 = .ok (.lload_n 3, 1) := by decide +kernel
theorem dX4_withIfEnded_42 : decode cX4_withIfEnded 42 = .ok (.aload_n 0, 1) := by decide +kernel
theorem dX4_withIfEnded_43 : decode cX4_withIfEnded 43 = .ok (.getfield 16, 3) := by decide +kernel
theorem dX4_withIfEnded_46 : decode cX4_withIfEnded 46 = .ok (.getfield 58, 3) := by decide +kernel
theorem dX4_withIfEnded_49 : decode cX4_withIfEnded 49 = .ok (.i2l, 1) := by decide +kernel
theorem dX4_withIfEnded_50 : decode cX4_withIfEnded 50 = .ok (.invokestatic 165, 3) := by decide +kernel
theorem dX4_withIfEnded_53 : decode cX4_withIfEnded 53 = .ok (.lstore_n 3, 1) := by decide +kernel
theorem dX4_withIfEnded_54 : decode cX4_withIfEnded 54 = .ok (.iinc 5 1, 3) := by decide +kernel
theorem dX4_withIfEnded_57 : decode cX4_withIfEnded 57 = .ok (.goto (-30), 3) := by decide +kernel
theorem dX4_withIfEnded_60 : decode cX4_withIfEnded 60 = .ok (.lload_n 3, 1) := by decide +kernel
theorem dX4_withIfEnded_61 : decode cX4_withIfEnded 61 = .ok (.lreturn, 1) := by decide +kernel
theorem dX4_bitsOf_0 : decode cX4_bitsOf 0 = .ok (.dload_n 0, 1) := by decide +kernel
theorem dX4_bitsOf_1 : decode cX4_bitsOf 1 = .ok (.dconst 0, 1) := by decide +kernel
theorem dX4_bitsOf_2 : decode cX4_bitsOf 2 = .ok (.dcmp .g, 1) := by decide +kernel
theorem dX4_bitsOf_3 : decode cX4_bitsOf 3 = .ok (.ifCond .gt 5, 3) := by decide +kernel
theorem dX4_bitsOf_6 : decode cX4_bitsOf 6 = .ok (.lconst 0, 1) := by decide +kernel
theorem dX4_bitsOf_7 : decode cX4_bitsOf 7 = .ok (.lreturn, 1) := by decide +kernel
theorem dX4_bitsOf_8 : decode cX4_bitsOf 8 = .ok (.ldc2_w 226, 3) := by decide +kernel
theorem dX4_bitsOf_11 : decode cX4_bitsOf 11 = .ok (.lstore_n 2, 1) := by decide +kernel
theorem dX4_bitsOf_12 : decode cX4_bitsOf 12 = .ok (.dload_n 0, 1) := by decide +kernel
theorem dX4_bitsOf_13 : decode cX4_bitsOf 13 = .ok (.dstore 4, 2) := by decide +kernel
theorem dX4_bitsOf_15 : decode cX4_bitsOf 15 = .ok (.iconst 0, 1) := by decide +kernel
theorem dX4_bitsOf_16 : decode cX4_bitsOf 16 = .ok (.istore 6, 2) := by decide +kernel
theorem dX4_bitsOf_18 : decode cX4_bitsOf 18 = .ok (.iload 6, 2) := by decide +kernel
theorem dX4_bitsOf_20 : decode cX4_bitsOf 20 = .ok (.bipush 100, 2) := by decide +kernel
theorem dX4_bitsOf_22 : decode cX4_bitsOf 22 = .ok (.if_icmp .ge 28, 3) := by decide +kernel
theorem dX4_bitsOf_25 : decode cX4_bitsOf 25 = .ok (.dload 4, 2) := by decide +kernel
theorem dX4_bitsOf_27 : decode cX4_bitsOf 27 = .ok (.dconst 1, 1) := by decide +kernel
theorem dX4_bitsOf_28 : decode cX4_bitsOf 28 = .ok (.dcmp .g, 1) := by decide +kernel
theorem dX4_bitsOf_29 : decode cX4_bitsOf 29 = .ok (.ifCond .ge 21, 3) := by decide +kernel
theorem dX4_bitsOf_32 : decode cX4_bitsOf 32 = .ok (.dload 4, 2) := by decide +kernel
theorem dX4_bitsOf_34 : decode cX4_bitsOf 34 = .ok (.ldc2_w 228, 3) := by decide +kernel
theorem dX4_bitsOf_37 : decode cX4_bitsOf 37 = .ok (.dmul, 1) := by decide +kernel
theorem dX4_bitsOf_38 : decode cX4_bitsOf 38 = .ok (.dstore 4, 2) := by decide +kernel
theorem dX4_bitsOf_40 : decode cX4_bitsOf 40 = .ok (.lload_n 2, 1) := by decide +kernel
theorem dX4_bitsOf_41 : decode cX4_bitsOf 41 = .ok (.lconst 1, 1) := by decide +kernel
theorem dX4_bitsOf_42 : decode cX4_bitsOf 42 = .ok (.lsub, 1) := by decide +kernel
theorem dX4_bitsOf_43 : decode cX4_bitsOf 43 = .ok (.lstore_n 2, 1) := by decide +kernel
theorem dX4_bitsOf_44 : decode cX4_bitsOf 44 = .ok (.iinc 6 1, 3) := by decide +kernel
theorem dX4_bitsOf_47 : decode cX4_bitsOf 47 = .ok (.goto (-29), 3) := by decide +kernel
theorem dX4_bitsOf_50 : decode cX4_bitsOf 50 = .ok (.lload_n 2, 1) := by decide +kernel
theorem dX4_bitsOf_51 : decode cX4_bitsOf 51 = .ok (.bipush 52, 2) := by decide +kernel
theorem dX4_bitsOf_53 : decode cX4_bitsOf 53 = .ok (.lshl, 1) := by decide +kernel
theorem dX4_bitsOf_54 : decode cX4_bitsOf 54 = .ok (.dload 4, 2) := by decide +kernel
theorem dX4_bitsOf_56 : decode cX4_bitsOf 56 = .ok (.dconst 1, 1) := by decide +kernel
theorem dX4_bitsOf_57 : decode cX4_bitsOf 57 = .ok (.dsub, 1) := by decide +kernel
theorem dX4_bitsOf_58 : decode cX4_bitsOf 58 = .ok (.ldc2_w 230, 3) := by decide +kernel
theorem dX4_bitsOf_61 : decode cX4_bitsOf 61 = .ok (.dmul, 1) := by decide +kernel
theorem dX4_bitsOf_62 : decode cX4_bitsOf 62 = .ok (.d2l, 1) := by decide +kernel
theorem dX4_bitsOf_63 : decode cX4_bitsOf 63 = .ok (.ladd, 1) := by decide +kernel
theorem dX4_bitsOf_64 : decode cX4_bitsOf 64 = .ok (.lreturn, 1) := by decide +kernel
theorem dX5_init_0 : decode cX5_init 0 = .ok (.aload_n 0, 1) := by decide +kernel
theorem dX5_init_1 : decode cX5_init 1 = .ok (.invokespecial 1, 3) := by decide +kernel
theorem dX5_init_4 : decode cX5_init 4 = .ok (.aload_n 0, 1) := by decide +kernel
theorem dX5_init_5 : decode cX5_init 5 = .ok (.sipush 186, 3) := by decide +kernel
theorem dX5_init_8 : decode cX5_init 8 = .ok (.newarray .int, 2) := by decide +kernel
theorem dX5_init_10 : decode cX5_init 10 = .ok (.putfield 7, 3) := by decide +kernel
theorem dX5_init_13 : decode cX5_init 13 = .ok (.aload_n 0, 1) := by decide +kernel
theorem dX5_init_14 : decode cX5_init 14 = .ok (.sipush 1116, 3) := by decide +kernel
theorem dX5_init_17 : decode cX5_init 17 = .ok (.newarray .int, 2) := by decide +kernel
theorem dX5_init_19 : decode cX5_init 19 = .ok (.putfield 13, 3) := by decide +kernel
theorem dX5_init_22 : decode cX5_init 22 = .ok (.aload_n 0, 1) := by decide +kernel
theorem dX5_init_23 : decode cX5_init 23 = .ok (.sipush 186, 3) := by decide +kernel
theorem dX5_init_26 : decode cX5_init 26 = .ok (.newarray .int, 2) := by decide +kernel
theorem dX5_init_28 : decode cX5_init 28 = .ok (.putfield 16, 3) := by decide +kernel
theorem dX5_init_31 : decode cX5_init 31 = .ok (.aload_n 0, 1) := by decide +kernel
theorem dX5_init_32 : decode cX5_init 32 = .ok (.bipush 60, 2) := by decide +kernel
theorem dX5_init_34 : decode cX5_init 34 = .ok (.newarray .int, 2) := by decide +kernel
theorem dX5_init_36 : decode cX5_init 36 = .ok (.putfield 19, 3) := by decide +kernel
theorem dX5_init_39 : decode cX5_init 39 = .ok (.aload_n 0, 1) := by decide +kernel
theorem dX5_init_40 : decode cX5_init 40 = .ok (.bipush 10, 2) := by decide +kernel
theorem dX5_init_42 : decode cX5_init 42 = .ok (.newarray .int, 2) := by decide +kernel
theorem dX5_init_44 : decode cX5_init 44 = .ok (.putfield 22, 3) := by decide +kernel
theorem dX5_init_47 : decode cX5_init 47 = .ok (.aload_n 0, 1) := by decide +kernel
theorem dX5_init_48 : decode cX5_init 48 = .ok (.sipush 132, 3) := by decide +kernel
theorem dX5_init_51 : decode cX5_init 51 = .ok (.newarray .int, 2) := by decide +kernel
theorem dX5_init_53 : decode cX5_init 53 = .ok (.putfield 25, 3) := by decide +kernel
theorem dX5_init_56 : decode cX5_init 56 = .ok (.aload_n 0, 1) := by decide +kernel
theorem dX5_init_57 : decode cX5_init 57 = .ok (.getfield 7, 3) := by decide +kernel
theorem dX5_init_60 : decode cX5_init 60 = .ok (.iconst 2, 1) := by decide +kernel
theorem dX5_init_61 : decode cX5_init 61 = .ok (.iconst (-1), 1) := by decide +kernel
theorem dX5_init_62 : decode cX5_init 62 = .ok (.iastore, 1) := by decide +kernel
theorem dX5_init_63 : decode cX5_init 63 = .ok (.return_, 1) := by decide +kernel
theorem dX5_thrown_0 : decode cX5_thrown 0 = .ok (.aload_n 0, 1) := by decide +kernel
theorem dX5_thrown_1 : decode cX5_thrown 1 = .ok (.getfield 28, 3) := by decide +kernel
theorem dX5_thrown_4 : decode cX5_thrown 4 = .ok (.ireturn, 1) := by decide +kernel
theorem dX5_in_0 : decode cX5_in 0 = .ok (.iload_n 0, 1) := by decide +kernel
theorem dX5_in_1 : decode cX5_in 1 = .ok (.iload_n 1, 1) := by decide +kernel
theorem dX5_in_2 : decode cX5_in 2 = .ok (.if_icmp .lt 12, 3) := by decide +kernel
theorem dX5_in_5 : decode cX5_in 5 = .ok (.iload_n 0, 1) := by decide +kernel
theorem dX5_in_6 : decode cX5_in 6 = .ok (.iload_n 2, 1) := by decide +kernel
theorem dX5_in_7 : decode cX5_in 7 = .ok (.if_icmp .gt 7, 3) := by decide +kernel
theorem dX5_in_10 : decode cX5_in 10 = .ok (.iconst 1, 1) := by decide +kernel
theorem dX5_in_11 : decode cX5_in 11 = .ok (.goto 4, 3) := by decide +kernel
theorem dX5_in_14 : decode cX5_in 14 = .ok (.iconst 0, 1) := by decide +kernel
theorem dX5_in_15 : decode cX5_in 15 = .ok (.ireturn, 1) := by decide +kernel
theorem dX5_isFighter_0 : decode cX5_isFighter 0 = .ok (.iload_n 1, 1) := by decide +kernel
theorem dX5_isFighter_1 : decode cX5_isFighter 1 = .ok (.ifCond .lt 17, 3) := by decide +kernel
theorem dX5_isFighter_4 : decode cX5_isFighter 4 = .ok (.iload_n 1, 1) := by decide +kernel
theorem dX5_isFighter_5 : decode cX5_isFighter 5 = .ok (.aload_n 0, 1) := by decide +kernel
theorem dX5_isFighter_6 : decode cX5_isFighter 6 = .ok (.getfield 7, 3) := by decide +kernel
theorem dX5_isFighter_9 : decode cX5_isFighter 9 = .ok (.iconst 0, 1) := by decide +kernel
theorem dX5_isFighter_10 : decode cX5_isFighter 10 = .ok (.iaload, 1) := by decide +kernel
theorem dX5_isFighter_11 : decode cX5_isFighter 11 = .ok (.if_icmp .ge 7, 3) := by decide +kernel
theorem dX5_isFighter_14 : decode cX5_isFighter 14 = .ok (.iconst 1, 1) := by decide +kernel
theorem dX5_isFighter_15 : decode cX5_isFighter 15 = .ok (.goto 4, 3) := by decide +kernel
theorem dX5_isFighter_18 : decode cX5_isFighter 18 = .ok (.iconst 0, 1) := by decide +kernel
theorem dX5_isFighter_19 : decode cX5_isFighter 19 = .ok (.ireturn, 1) := by decide +kernel
theorem dX5_of_0 : decode cX5_of 0 = .ok (.aload_n 0, 1) := by decide +kernel
theorem dX5_of_1 : decode cX5_of 1 = .ok (.getfield 7, 3) := by decide +kernel
theorem dX5_of_4 : decode cX5_of 4 = .ok (.bipush 16, 2) := by decide +kernel
theorem dX5_of_6 : decode cX5_of 6 = .ok (.bipush 17, 2) := by decide +kernel
theorem dX5_of_8 : decode cX5_of 8 = .ok (.iload_n 1, 1) := by decide +kernel
theorem dX5_of_9 : decode cX5_of 9 = .ok (.imul, 1) := by decide +kernel
theorem dX5_of_10 : decode cX5_of 10 = .ok (.iadd, 1) := by decide +kernel
theorem dX5_of_11 : decode cX5_of 11 = .ok (.iload_n 2, 1) := by decide +kernel
theorem dX5_of_12 : decode cX5_of 12 = .ok (.iadd, 1) := by decide +kernel
theorem dX5_of_13 : decode cX5_of 13 = .ok (.iaload, 1) := by decide +kernel
theorem dX5_of_14 : decode cX5_of 14 = .ok (.ireturn, 1) := by decide +kernel
theorem dX5_lay_0 : decode cX5_lay 0 = .ok (.aload_n 0, 1) := by decide +kernel
theorem dX5_lay_1 : decode cX5_lay 1 = .ok (.getfield 7, 3) := by decide +kernel
theorem dX5_lay_4 : decode cX5_lay 4 = .ok (.bipush 16, 2) := by decide +kernel
theorem dX5_lay_6 : decode cX5_lay 6 = .ok (.bipush 17, 2) := by decide +kernel
theorem dX5_lay_8 : decode cX5_lay 8 = .ok (.iload_n 1, 1) := by decide +kernel
theorem dX5_lay_9 : decode cX5_lay 9 = .ok (.imul, 1) := by decide +kernel
theorem dX5_lay_10 : decode cX5_lay 10 = .ok (.iadd, 1) := by decide +kernel
theorem dX5_lay_11 : decode cX5_lay 11 = .ok (.iload_n 2, 1) := by decide +kernel
theorem dX5_lay_12 : decode cX5_lay 12 = .ok (.iadd, 1) := by decide +kernel
theorem dX5_lay_13 : decode cX5_lay 13 = .ok (.iload_n 3, 1) := by decide +kernel
theorem dX5_lay_14 : decode cX5_lay 14 = .ok (.iastore, 1) := by decide +kernel
theorem dX5_lay_15 : decode cX5_lay 15 = .ok (.return_, 1) := by decide +kernel
theorem dX5_hasFallen_0 : decode cX5_hasFallen 0 = .ok (.aload_n 0, 1) := by decide +kernel
theorem dX5_hasFallen_1 : decode cX5_hasFallen 1 = .ok (.iload_n 1, 1) := by decide +kernel
theorem dX5_hasFallen_2 : decode cX5_hasFallen 2 = .ok (.iconst 2, 1) := by decide +kernel
theorem dX5_hasFallen_3 : decode cX5_hasFallen 3 = .ok (.invokevirtual 32, 3) := by decide +kernel
theorem dX5_hasFallen_6 : decode cX5_hasFallen 6 = .ok (.ifCond .ne 7, 3) := by decide +kernel
theorem dX5_hasFallen_9 : decode cX5_hasFallen 9 = .ok (.iconst 1, 1) := by decide +kernel
theorem dX5_hasFallen_10 : decode cX5_hasFallen 10 = .ok (.goto 4, 3) := by decide +kernel
theorem dX5_hasFallen_13 : decode cX5_hasFallen 13 = .ok (.iconst 0, 1) := by decide +kernel
theorem dX5_hasFallen_14 : decode cX5_hasFallen 14 = .ok (.ireturn, 1) := by decide +kernel
theorem dX5_has_0 : decode cX5_has 0 = .ok (.aload_n 0, 1) := by decide +kernel
theorem dX5_has_1 : decode cX5_has 1 = .ok (.iload_n 1, 1) := by decide +kernel
theorem dX5_has_2 : decode cX5_has 2 = .ok (.bipush 11, 2) := by decide +kernel
theorem dX5_has_4 : decode cX5_has 4 = .ok (.iload_n 2, 1) := by decide +kernel
theorem dX5_has_5 : decode cX5_has 5 = .ok (.iadd, 1) := by decide +kernel
theorem dX5_has_6 : decode cX5_has 6 = .ok (.invokevirtual 32, 3) := by decide +kernel
theorem dX5_has_9 : decode cX5_has 9 = .ok (.ifCond .le 7, 3) := by decide +kernel
theorem dX5_has_12 : decode cX5_has 12 = .ok (.iconst 1, 1) := by decide +kernel
theorem dX5_has_13 : decode cX5_has 13 = .ok (.goto 4, 3) := by decide +kernel
theorem dX5_has_16 : decode cX5_has 16 = .ok (.iconst 0, 1) := by decide +kernel
theorem dX5_has_17 : decode cX5_has 17 = .ok (.ireturn, 1) := by decide +kernel
theorem dX5_apart_0 : decode cX5_apart 0 = .ok (.iload_n 0, 1) := by decide +kernel
theorem dX5_apart_1 : decode cX5_apart 1 = .ok (.iload_n 1, 1) := by decide +kernel
theorem dX5_apart_2 : decode cX5_apart 2 = .ok (.if_icmp .ge 9, 3) := by decide +kernel
theorem dX5_apart_5 : decode cX5_apart 5 = .ok (.iload_n 1, 1) := by decide +kernel
theorem dX5_apart_6 : decode cX5_apart 6 = .ok (.iload_n 0, 1) := by decide +kernel
theorem dX5_apart_7 : decode cX5_apart 7 = .ok (.isub, 1) := by decide +kernel
theorem dX5_apart_8 : decode cX5_apart 8 = .ok (.goto 6, 3) := by decide +kernel
theorem dX5_apart_11 : decode cX5_apart 11 = .ok (.iload_n 0, 1) := by decide +kernel
theorem dX5_apart_12 : decode cX5_apart 12 = .ok (.iload_n 1, 1) := by decide +kernel
theorem dX5_apart_13 : decode cX5_apart 13 = .ok (.isub, 1) := by decide +kernel
theorem dX5_apart_14 : decode cX5_apart 14 = .ok (.ireturn, 1) := by decide +kernel
theorem dX5_save_0 : decode cX5_save 0 = .ok (.aload_n 0, 1) := by decide +kernel
theorem dX5_save_1 : decode cX5_save 1 = .ok (.getfield 36, 3) := by decide +kernel
theorem dX5_save_4 : decode cX5_save 4 = .ok (.bipush 6, 2) := by decide +kernel
theorem dX5_save_6 : decode cX5_save 6 = .ok (.if_icmp .ne 44, 3) := by decide +kernel
theorem dX5_save_9 : decode cX5_save 9 = .ok (.iconst 0, 1) := by decide +kernel
theorem dX5_save_10 : decode cX5_save 10 = .ok (.istore_n 1, 1) := by decide +kernel
theorem dX5_save_11 : decode cX5_save 11 = .ok (.iload_n 1, 1) := by decide +kernel
theorem dX5_save_12 : decode cX5_save 12 = .ok (.sipush 930, 3) := by decide +kernel
theorem dX5_save_15 : decode cX5_save 15 = .ok (.if_icmp .ge 25, 3) := by decide +kernel
theorem dX5_save_18 : decode cX5_save 18 = .ok (.aload_n 0, 1) := by decide +kernel
theorem dX5_save_19 : decode cX5_save 19 = .ok (.getfield 13, 3) := by decide +kernel
theorem dX5_save_22 : decode cX5_save 22 = .ok (.iload_n 1, 1) := by decide +kernel
theorem dX5_save_23 : decode cX5_save 23 = .ok (.aload_n 0, 1) := by decide +kernel
theorem dX5_save_24 : decode cX5_save 24 = .ok (.getfield 13, 3) := by decide +kernel
theorem dX5_save_27 : decode cX5_save 27 = .ok (.iload_n 1, 1) := by decide +kernel
theorem dX5_save_28 : decode cX5_save 28 = .ok (.sipush 186, 3) := by decide +kernel
theorem dX5_save_31 : decode cX5_save 31 = .ok (.iadd, 1) := by decide +kernel
theorem dX5_save_32 : decode cX5_save 32 = .ok (.iaload, 1) := by decide +kernel
theorem dX5_save_33 : decode cX5_save 33 = .ok (.iastore, 1) := by decide +kernel
theorem dX5_save_34 : decode cX5_save 34 = .ok (.iinc 1 1, 3) := by decide +kernel
theorem dX5_save_37 : decode cX5_save 37 = .ok (.goto (-26), 3) := by decide +kernel
theorem dX5_save_40 : decode cX5_save 40 = .ok (.aload_n 0, 1) := by decide +kernel
theorem dX5_save_41 : decode cX5_save 41 = .ok (.dup, 1) := by decide +kernel
theorem dX5_save_42 : decode cX5_save 42 = .ok (.getfield 36, 3) := by decide +kernel
theorem dX5_save_45 : decode cX5_save 45 = .ok (.iconst 1, 1) := by decide +kernel
theorem dX5_save_46 : decode cX5_save 46 = .ok (.isub, 1) := by decide +kernel
theorem dX5_save_47 : decode cX5_save 47 = .ok (.putfield 36, 3) := by decide +kernel
theorem dX5_save_50 : decode cX5_save 50 = .ok (.iconst 0, 1) := by decide +kernel
theorem dX5_save_51 : decode cX5_save 51 = .ok (.istore_n 1, 1) := by decide +kernel
theorem dX5_save_52 : decode cX5_save 52 = .ok (.iload_n 1, 1) := by decide +kernel
theorem dX5_save_53 : decode cX5_save 53 = .ok (.sipush 186, 3) := by decide +kernel
theorem dX5_save_56 : decode cX5_save 56 = .ok (.if_icmp .ge 30, 3) := by decide +kernel
theorem dX5_save_59 : decode cX5_save 59 = .ok (.aload_n 0, 1) := by decide +kernel
theorem dX5_save_60 : decode cX5_save 60 = .ok (.getfield 13, 3) := by decide +kernel
theorem dX5_save_63 : decode cX5_save 63 = .ok (.aload_n 0, 1) := by decide +kernel
theorem dX5_save_64 : decode cX5_save 64 = .ok (.getfield 36, 3) := by decide +kernel
theorem dX5_save_67 : decode cX5_save 67 = .ok (.sipush 186, 3) := by decide +kernel
theorem dX5_save_70 : decode cX5_save 70 = .ok (.imul, 1) := by decide +kernel
theorem dX5_save_71 : decode cX5_save 71 = .ok (.iload_n 1, 1) := by decide +kernel
theorem dX5_save_72 : decode cX5_save 72 = .ok (.iadd, 1) := by decide +kernel
theorem dX5_save_73 : decode cX5_save 73 = .ok (.aload_n 0, 1) := by decide +kernel
theorem dX5_save_74 : decode cX5_save 74 = .ok (.getfield 7, 3) := by decide +kernel
theorem dX5_save_77 : decode cX5_save 77 = .ok (.iload_n 1, 1) := by decide +kernel
theorem dX5_save_78 : decode cX5_save 78 = .ok (.iaload, 1) := by decide +kernel
theorem dX5_save_79 : decode cX5_save 79 = .ok (.iastore, 1) := by decide +kernel
theorem dX5_save_80 : decode cX5_save 80 = .ok (.iinc 1 1, 3) := by decide +kernel
theorem dX5_save_83 : decode cX5_save 83 = .ok (.goto (-31), 3) := by decide +kernel
theorem dX5_save_86 : decode cX5_save 86 = .ok (.aload_n 0, 1) := by decide +kernel
theorem dX5_save_87 : decode cX5_save 87 = .ok (.dup, 1) := by decide +kernel
theorem dX5_save_88 : decode cX5_save 88 = .ok (.getfield 36, 3) := by decide +kernel
theorem dX5_save_91 : decode cX5_save 91 = .ok (.iconst 1, 1) := by decide +kernel
theorem dX5_save_92 : decode cX5_save 92 = .ok (.iadd, 1) := by decide +kernel
theorem dX5_save_93 : decode cX5_save 93 = .ok (.putfield 36, 3) := by decide +kernel
theorem dX5_save_96 : decode cX5_save 96 = .ok (.return_, 1) := by decide +kernel
theorem dX5_undo_0 : decode cX5_undo 0 = .ok (.aload_n 0, 1) := by decide +kernel
theorem dX5_undo_1 : decode cX5_undo 1 = .ok (.aload_n 0, 1) := by decide +kernel
theorem dX5_undo_2 : decode cX5_undo 2 = .ok (.getfield 36, 3) := by decide +kernel
theorem dX5_undo_5 : decode cX5_undo 5 = .ok (.ifCond .ne 7, 3) := by decide +kernel
theorem dX5_undo_8 : decode cX5_undo 8 = .ok (.iconst 1, 1) := by decide +kernel
theorem dX5_undo_9 : decode cX5_undo 9 = .ok (.goto 4, 3) := by decide +kernel
theorem dX5_undo_12 : decode cX5_undo 12 = .ok (.iconst 0, 1) := by decide +kernel
theorem dX5_undo_13 : decode cX5_undo 13 = .ok (.putfield 28, 3) := by decide +kernel
theorem dX5_undo_16 : decode cX5_undo 16 = .ok (.aload_n 0, 1) := by decide +kernel
theorem dX5_undo_17 : decode cX5_undo 17 = .ok (.getfield 28, 3) := by decide +kernel
theorem dX5_undo_20 : decode cX5_undo 20 = .ok (.ifCond .le 5, 3) := by decide +kernel
theorem dX5_undo_23 : decode cX5_undo 23 = .ok (.iconst 0, 1) := by decide +kernel
theorem dX5_undo_24 : decode cX5_undo 24 = .ok (.ireturn, 1) := by decide +kernel
theorem dX5_undo_25 : decode cX5_undo 25 = .ok (.aload_n 0, 1) := by decide +kernel
theorem dX5_undo_26 : decode cX5_undo 26 = .ok (.dup, 1) := by decide +kernel
theorem dX5_undo_27 : decode cX5_undo 27 = .ok (.getfield 36, 3) := by decide +kernel
theorem dX5_undo_30 : decode cX5_undo 30 = .ok (.iconst 1, 1) := by decide +kernel
theorem dX5_undo_31 : decode cX5_undo 31 = .ok (.isub, 1) := by decide +kernel
theorem dX5_undo_32 : decode cX5_undo 32 = .ok (.putfield 36, 3) := by decide +kernel
theorem dX5_undo_35 : decode cX5_undo 35 = .ok (.iconst 0, 1) := by decide +kernel
theorem dX5_undo_36 : decode cX5_undo 36 = .ok (.istore_n 1, 1) := by decide +kernel
theorem dX5_undo_37 : decode cX5_undo 37 = .ok (.iload_n 1, 1) := by decide +kernel
theorem dX5_undo_38 : decode cX5_undo 38 = .ok (.sipush 186, 3) := by decide +kernel
theorem dX5_undo_41 : decode cX5_undo 41 = .ok (.if_icmp .ge 30, 3) := by decide +kernel
theorem dX5_undo_44 : decode cX5_undo 44 = .ok (.aload_n 0, 1) := by decide +kernel
theorem dX5_undo_45 : decode cX5_undo 45 = .ok (.getfield 7, 3) := by decide +kernel
theorem dX5_undo_48 : decode cX5_undo 48 = .ok (.iload_n 1, 1) := by decide +kernel
theorem dX5_undo_49 : decode cX5_undo 49 = .ok (.aload_n 0, 1) := by decide +kernel
theorem dX5_undo_50 : decode cX5_undo 50 = .ok (.getfield 13, 3) := by decide +kernel
theorem dX5_undo_53 : decode cX5_undo 53 = .ok (.aload_n 0, 1) := by decide +kernel
theorem dX5_undo_54 : decode cX5_undo 54 = .ok (.getfield 36, 3) := by decide +kernel
theorem dX5_undo_57 : decode cX5_undo 57 = .ok (.sipush 186, 3) := by decide +kernel
theorem dX5_undo_60 : decode cX5_undo 60 = .ok (.imul, 1) := by decide +kernel
theorem dX5_undo_61 : decode cX5_undo 61 = .ok (.iload_n 1, 1) := by decide +kernel
theorem dX5_undo_62 : decode cX5_undo 62 = .ok (.iadd, 1) := by decide +kernel
theorem dX5_undo_63 : decode cX5_undo 63 = .ok (.iaload, 1) := by decide +kernel
theorem dX5_undo_64 : decode cX5_undo 64 = .ok (.iastore, 1) := by decide +kernel
theorem dX5_undo_65 : decode cX5_undo 65 = .ok (.iinc 1 1, 3) := by decide +kernel
theorem dX5_undo_68 : decode cX5_undo 68 = .ok (.goto (-31), 3) := by decide +kernel
theorem dX5_undo_71 : decode cX5_undo 71 = .ok (.aload_n 0, 1) := by decide +kernel
theorem dX5_undo_72 : decode cX5_undo 72 = .ok (.getfield 36, 3) := by decide +kernel
theorem dX5_undo_75 : decode cX5_undo 75 = .ok (.ireturn, 1) := by decide +kernel
theorem dX5_putAside_0 : decode cX5_putAside 0 = .ok (.iconst 0, 1) := by decide +kernel
theorem dX5_putAside_1 : decode cX5_putAside 1 = .ok (.istore_n 1, 1) := by decide +kernel
theorem dX5_putAside_2 : decode cX5_putAside 2 = .ok (.iload_n 1, 1) := by decide +kernel
theorem dX5_putAside_3 : decode cX5_putAside 3 = .ok (.sipush 186, 3) := by decide +kernel
theorem dX5_putAside_6 : decode cX5_putAside 6 = .ok (.if_icmp .ge 21, 3) := by decide +kernel
theorem dX5_putAside_9 : decode cX5_putAside 9 = .ok (.aload_n 0, 1) := by decide +kernel
theorem dX5_putAside_10 : decode cX5_putAside 10 = .ok (.getfield 16, 3) := by decide +kernel
theorem dX5_putAside_13 : decode cX5_putAside 13 = .ok (.iload_n 1, 1) := by decide +kernel
theorem dX5_putAside_14 : decode cX5_putAside 14 = .ok (.aload_n 0, 1) := by decide +kernel
theorem dX5_putAside_15 : decode cX5_putAside 15 = .ok (.getfield 7, 3) := by decide +kernel
theorem dX5_putAside_18 : decode cX5_putAside 18 = .ok (.iload_n 1, 1) := by decide +kernel
theorem dX5_putAside_19 : decode cX5_putAside 19 = .ok (.iaload, 1) := by decide +kernel
theorem dX5_putAside_20 : decode cX5_putAside 20 = .ok (.iastore, 1) := by decide +kernel
theorem dX5_putAside_21 : decode cX5_putAside 21 = .ok (.iinc 1 1, 3) := by decide +kernel
theorem dX5_putAside_24 : decode cX5_putAside 24 = .ok (.goto (-22), 3) := by decide +kernel
theorem dX5_putAside_27 : decode cX5_putAside 27 = .ok (.return_, 1) := by decide +kernel
theorem dX5_bringBack_0 : decode cX5_bringBack 0 = .ok (.iconst 0, 1) := by decide +kernel
theorem dX5_bringBack_1 : decode cX5_bringBack 1 = .ok (.istore_n 1, 1) := by decide +kernel
theorem dX5_bringBack_2 : decode cX5_bringBack 2 = .ok (.iload_n 1, 1) := by decide +kernel
theorem dX5_bringBack_3 : decode cX5_bringBack 3 = .ok (.sipush 186, 3) := by decide +kernel
theorem dX5_bringBack_6 : decode cX5_bringBack 6 = .ok (.if_icmp .ge 21, 3) := by decide +kernel
theorem dX5_bringBack_9 : decode cX5_bringBack 9 = .ok (.aload_n 0, 1) := by decide +kernel
theorem dX5_bringBack_10 : decode cX5_bringBack 10 = .ok (.getfield 7, 3) := by decide +kernel
theorem dX5_bringBack_13 : decode cX5_bringBack 13 = .ok (.iload_n 1, 1) := by decide +kernel
theorem dX5_bringBack_14 : decode cX5_bringBack 14 = .ok (.aload_n 0, 1) := by decide +kernel
theorem dX5_bringBack_15 : decode cX5_bringBack 15 = .ok (.getfield 16, 3) := by decide +kernel
theorem dX5_bringBack_18 : decode cX5_bringBack 18 = .ok (.iload_n 1, 1) := by decide +kernel
theorem dX5_bringBack_19 : decode cX5_bringBack 19 = .ok (.iaload, 1) := by decide +kernel
theorem dX5_bringBack_20 : decode cX5_bringBack 20 = .ok (.iastore, 1) := by decide +kernel
theorem dX5_bringBack_21 : decode cX5_bringBack 21 = .ok (.iinc 1 1, 3) := by decide +kernel
theorem dX5_bringBack_24 : decode cX5_bringBack 24 = .ok (.goto (-22), 3) := by decide +kernel
theorem dX5_bringBack_27 : decode cX5_bringBack 27 = .ok (.return_, 1) := by decide +kernel
theorem dX5_placeInRow_0 : decode cX5_placeInRow 0 = .ok (.iconst (-1), 1) := by decide +kernel
theorem dX5_placeInRow_1 : decode cX5_placeInRow 1 = .ok (.istore_n 2, 1) := by decide +kernel
theorem dX5_placeInRow_2 : decode cX5_placeInRow 2 = .ok (.iconst 0, 1) := by decide +kernel
theorem dX5_placeInRow_3 : decode cX5_placeInRow 3 = .ok (.istore_n 3, 1) := by decide +kernel
theorem dX5_placeInRow_4 : decode cX5_placeInRow 4 = .ok (.iload_n 3, 1) := by decide +kernel
theorem dX5_placeInRow_5 : decode cX5_placeInRow 5 = .ok (.aload_n 0, 1) := by decide +kernel
theorem dX5_placeInRow_6 : decode cX5_placeInRow 6 = .ok (.getfield 7, 3) := by decide +kernel
theorem dX5_placeInRow_9 : decode cX5_placeInRow 9 = .ok (.iconst 0, 1) := by decide +kernel
theorem dX5_placeInRow_10 : decode cX5_placeInRow 10 = .ok (.iaload, 1) := by decide +kernel
theorem dX5_placeInRow_11 : decode cX5_placeInRow 11 = .ok (.if_icmp .ge 28, 3) := by decide +kernel
theorem dX5_placeInRow_14 : decode cX5_placeInRow 14 = .ok (.aload_n 0, 1) := by decide +kernel
theorem dX5_placeInRow_15 : decode cX5_placeInRow 15 = .ok (.getfield 7, 3) := by decide +kernel
theorem dX5_placeInRow_18 : decode cX5_placeInRow 18 = .ok (.bipush 6, 2) := by decide +kernel
theorem dX5_placeInRow_20 : decode cX5_placeInRow 20 = .ok (.iload_n 3, 1) := by decide +kernel
theorem dX5_placeInRow_21 : decode cX5_placeInRow 21 = .ok (.iadd, 1) := by decide +kernel
theorem dX5_placeInRow_22 : decode cX5_placeInRow 22 = .ok (.iaload, 1) := by decide +kernel
theorem dX5_placeInRow_23 : decode cX5_placeInRow 23 = .ok (.iload_n 1, 1) := by decide +kernel
theorem dX5_placeInRow_24 : decode cX5_placeInRow 24 = .ok (.if_icmp .ne 7, 3) := by decide +kernel
theorem dX5_placeInRow_27 : decode cX5_placeInRow 27 = .ok (.iload_n 3, 1) := by decide +kernel
theorem dX5_placeInRow_28 : decode cX5_placeInRow 28 = .ok (.goto 4, 3) := by decide +kernel
theorem dX5_placeInRow_31 : decode cX5_placeInRow 31 = .ok (.iload_n 2, 1) := by decide +kernel
theorem dX5_placeInRow_32 : decode cX5_placeInRow 32 = .ok (.istore_n 2, 1) := by decide +kernel
theorem dX5_placeInRow_33 : decode cX5_placeInRow 33 = .ok (.iinc 3 1, 3) := by decide +kernel
theorem dX5_placeInRow_36 : decode cX5_placeInRow 36 = .ok (.goto (-32), 3) := by decide +kernel
theorem dX5_placeInRow_39 : decode cX5_placeInRow 39 = .ok (.iload_n 2, 1) := by decide +kernel
theorem dX5_placeInRow_40 : decode cX5_placeInRow 40 = .ok (.ireturn, 1) := by decide +kernel
theorem dX5_moveInRow_0 : decode cX5_moveInRow 0 = .ok (.aload_n 0, 1) := by decide +kernel
theorem dX5_moveInRow_1 : decode cX5_moveInRow 1 = .ok (.iload_n 1, 1) := by decide +kernel
theorem dX5_moveInRow_2 : decode cX5_moveInRow 2 = .ok (.invokevirtual 39, 3) := by decide +kernel
theorem dX5_moveInRow_5 : decode cX5_moveInRow 5 = .ok (.istore_n 3, 1) := by decide +kernel
theorem dX5_moveInRow_6 : decode cX5_moveInRow 6 = .ok (.iload_n 3, 1) := by decide +kernel
theorem dX5_moveInRow_7 : decode cX5_moveInRow 7 = .ok (.iconst 1, 1) := by decide +kernel
theorem dX5_moveInRow_8 : decode cX5_moveInRow 8 = .ok (.iadd, 1) := by decide +kernel
theorem dX5_moveInRow_9 : decode cX5_moveInRow 9 = .ok (.aload_n 0, 1) := by decide +kernel
theorem dX5_moveInRow_10 : decode cX5_moveInRow 10 = .ok (.getfield 7, 3) := by decide +kernel
theorem dX5_moveInRow_13 : decode cX5_moveInRow 13 = .ok (.iconst 0, 1) := by decide +kernel
theorem dX5_moveInRow_14 : decode cX5_moveInRow 14 = .ok (.iaload, 1) := by decide +kernel
theorem dX5_moveInRow_15 : decode cX5_moveInRow 15 = .ok (.if_icmp .ge 29, 3) := by decide +kernel
theorem dX5_moveInRow_18 : decode cX5_moveInRow 18 = .ok (.aload_n 0, 1) := by decide +kernel
theorem dX5_moveInRow_19 : decode cX5_moveInRow 19 = .ok (.getfield 7, 3) := by decide +kernel
theorem dX5_moveInRow_22 : decode cX5_moveInRow 22 = .ok (.bipush 6, 2) := by decide +kernel
theorem dX5_moveInRow_24 : decode cX5_moveInRow 24 = .ok (.iload_n 3, 1) := by decide +kernel
theorem dX5_moveInRow_25 : decode cX5_moveInRow 25 = .ok (.iadd, 1) := by decide +kernel
theorem dX5_moveInRow_26 : decode cX5_moveInRow 26 = .ok (.aload_n 0, 1) := by decide +kernel
theorem dX5_moveInRow_27 : decode cX5_moveInRow 27 = .ok (.getfield 7, 3) := by decide +kernel
theorem dX5_moveInRow_30 : decode cX5_moveInRow 30 = .ok (.bipush 6, 2) := by decide +kernel
theorem dX5_moveInRow_32 : decode cX5_moveInRow 32 = .ok (.iload_n 3, 1) := by decide +kernel
theorem dX5_moveInRow_33 : decode cX5_moveInRow 33 = .ok (.iadd, 1) := by decide +kernel
theorem dX5_moveInRow_34 : decode cX5_moveInRow 34 = .ok (.iconst 1, 1) := by decide +kernel
theorem dX5_moveInRow_35 : decode cX5_moveInRow 35 = .ok (.iadd, 1) := by decide +kernel
theorem dX5_moveInRow_36 : decode cX5_moveInRow 36 = .ok (.iaload, 1) := by decide +kernel
theorem dX5_moveInRow_37 : decode cX5_moveInRow 37 = .ok (.iastore, 1) := by decide +kernel
theorem dX5_moveInRow_38 : decode cX5_moveInRow 38 = .ok (.iinc 3 1, 3) := by decide +kernel
theorem dX5_moveInRow_41 : decode cX5_moveInRow 41 = .ok (.goto (-35), 3) := by decide +kernel
theorem dX5_moveInRow_44 : decode cX5_moveInRow 44 = .ok (.aload_n 0, 1) := by decide +kernel
theorem dX5_moveInRow_45 : decode cX5_moveInRow 45 = .ok (.getfield 7, 3) := by decide +kernel
theorem dX5_moveInRow_48 : decode cX5_moveInRow 48 = .ok (.iconst 0, 1) := by decide +kernel
theorem dX5_moveInRow_49 : decode cX5_moveInRow 49 = .ok (.iaload, 1) := by decide +kernel
theorem dX5_moveInRow_50 : decode cX5_moveInRow 50 = .ok (.iconst 1, 1) := by decide +kernel
theorem dX5_moveInRow_51 : decode cX5_moveInRow 51 = .ok (.isub, 1) := by decide +kernel
theorem dX5_moveInRow_52 : decode cX5_moveInRow 52 = .ok (.istore_n 3, 1) := by decide +kernel
theorem dX5_moveInRow_53 : decode cX5_moveInRow 53 = .ok (.iload_n 3, 1) := by decide +kernel
theorem dX5_moveInRow_54 : decode cX5_moveInRow 54 = .ok (.iload_n 2, 1) := by decide +kernel
theorem dX5_moveInRow_55 : decode cX5_moveInRow 55 = .ok (.if_icmp .le 29, 3) := by decide +kernel
theorem dX5_moveInRow_58 : decode cX5_moveInRow 58 = .ok (.aload_n 0, 1) := by decide +kernel
theorem dX5_moveInRow_59 : decode cX5_moveInRow 59 = .ok (.getfield 7, 3) := by decide +kernel
theorem dX5_moveInRow_62 : decode cX5_moveInRow 62 = .ok (.bipush 6, 2) := by decide +kernel
theorem dX5_moveInRow_64 : decode cX5_moveInRow 64 = .ok (.iload_n 3, 1) := by decide +kernel
theorem dX5_moveInRow_65 : decode cX5_moveInRow 65 = .ok (.iadd, 1) := by decide +kernel
theorem dX5_moveInRow_66 : decode cX5_moveInRow 66 = .ok (.aload_n 0, 1) := by decide +kernel
theorem dX5_moveInRow_67 : decode cX5_moveInRow 67 = .ok (.getfield 7, 3) := by decide +kernel
theorem dX5_moveInRow_70 : decode cX5_moveInRow 70 = .ok (.bipush 6, 2) := by decide +kernel
theorem dX5_moveInRow_72 : decode cX5_moveInRow 72 = .ok (.iload_n 3, 1) := by decide +kernel
theorem dX5_moveInRow_73 : decode cX5_moveInRow 73 = .ok (.iadd, 1) := by decide +kernel
theorem dX5_moveInRow_74 : decode cX5_moveInRow 74 = .ok (.iconst 1, 1) := by decide +kernel
theorem dX5_moveInRow_75 : decode cX5_moveInRow 75 = .ok (.isub, 1) := by decide +kernel
theorem dX5_moveInRow_76 : decode cX5_moveInRow 76 = .ok (.iaload, 1) := by decide +kernel
theorem dX5_moveInRow_77 : decode cX5_moveInRow 77 = .ok (.iastore, 1) := by decide +kernel
theorem dX5_moveInRow_78 : decode cX5_moveInRow 78 = .ok (.iinc 3 (-1), 3) := by decide +kernel
theorem dX5_moveInRow_81 : decode cX5_moveInRow 81 = .ok (.goto (-28), 3) := by decide +kernel
theorem dX5_moveInRow_84 : decode cX5_moveInRow 84 = .ok (.aload_n 0, 1) := by decide +kernel
theorem dX5_moveInRow_85 : decode cX5_moveInRow 85 = .ok (.getfield 7, 3) := by decide +kernel
theorem dX5_moveInRow_88 : decode cX5_moveInRow 88 = .ok (.bipush 6, 2) := by decide +kernel
theorem dX5_moveInRow_90 : decode cX5_moveInRow 90 = .ok (.iload_n 2, 1) := by decide +kernel
theorem dX5_moveInRow_91 : decode cX5_moveInRow 91 = .ok (.iadd, 1) := by decide +kernel
theorem dX5_moveInRow_92 : decode cX5_moveInRow 92 = .ok (.iload_n 1, 1) := by decide +kernel
theorem dX5_moveInRow_93 : decode cX5_moveInRow 93 = .ok (.iastore, 1) := by decide +kernel
theorem dX5_moveInRow_94 : decode cX5_moveInRow 94 = .ok (.return_, 1) := by decide +kernel
theorem dX5_standAhead_0 : decode cX5_standAhead 0 = .ok (.aload_n 0, 1) := by decide +kernel
theorem dX5_standAhead_1 : decode cX5_standAhead 1 = .ok (.iload_n 2, 1) := by decide +kernel
theorem dX5_standAhead_2 : decode cX5_standAhead 2 = .ok (.invokevirtual 39, 3) := by decide +kernel
theorem dX5_standAhead_5 : decode cX5_standAhead 5 = .ok (.istore_n 3, 1) := by decide +kernel
theorem dX5_standAhead_6 : decode cX5_standAhead 6 = .ok (.aload_n 0, 1) := by decide +kernel
theorem dX5_standAhead_7 : decode cX5_standAhead 7 = .ok (.iload_n 1, 1) := by decide +kernel
theorem dX5_standAhead_8 : decode cX5_standAhead 8 = .ok (.aload_n 0, 1) := by decide +kernel
theorem dX5_standAhead_9 : decode cX5_standAhead 9 = .ok (.iload_n 1, 1) := by decide +kernel
theorem dX5_standAhead_10 : decode cX5_standAhead 10 = .ok (.invokevirtual 39, 3) := by decide +kernel
theorem dX5_standAhead_13 : decode cX5_standAhead 13 = .ok (.iload_n 3, 1) := by decide +kernel
theorem dX5_standAhead_14 : decode cX5_standAhead 14 = .ok (.if_icmp .ge 9, 3) := by decide +kernel
theorem dX5_standAhead_17 : decode cX5_standAhead 17 = .ok (.iload_n 3, 1) := by decide +kernel
theorem dX5_standAhead_18 : decode cX5_standAhead 18 = .ok (.iconst 1, 1) := by decide +kernel
theorem dX5_standAhead_19 : decode cX5_standAhead 19 = .ok (.isub, 1) := by decide +kernel
theorem dX5_standAhead_20 : decode cX5_standAhead 20 = .ok (.goto 4, 3) := by decide +kernel
theorem dX5_standAhead_23 : decode cX5_standAhead 23 = .ok (.iload_n 3, 1) := by decide +kernel
theorem dX5_standAhead_24 : decode cX5_standAhead 24 = .ok (.invokevirtual 43, 3) := by decide +kernel
theorem dX5_standAhead_27 : decode cX5_standAhead 27 = .ok (.aload_n 0, 1) := by decide +kernel
theorem dX5_standAhead_28 : decode cX5_standAhead 28 = .ok (.iload_n 1, 1) := by decide +kernel
theorem dX5_standAhead_29 : decode cX5_standAhead 29 = .ok (.iconst 1, 1) := by decide +kernel
theorem dX5_standAhead_30 : decode cX5_standAhead 30 = .ok (.aload_n 0, 1) := by decide +kernel
theorem dX5_standAhead_31 : decode cX5_standAhead 31 = .ok (.iload_n 2, 1) := by decide +kernel
theorem dX5_standAhead_32 : decode cX5_standAhead 32 = .ok (.iconst 1, 1) := by decide +kernel
theorem dX5_standAhead_33 : decode cX5_standAhead 33 = .ok (.invokevirtual 32, 3) := by decide +kernel
theorem dX5_standAhead_36 : decode cX5_standAhead 36 = .ok (.invokevirtual 47, 3) := by decide +kernel
theorem dX5_standAhead_39 : decode cX5_standAhead 39 = .ok (.return_, 1) := by decide +kernel
theorem dX5_standBehind_0 : decode cX5_standBehind 0 = .ok (.aload_n 0, 1) := by decide +kernel
theorem dX5_standBehind_1 : decode cX5_standBehind 1 = .ok (.iload_n 2, 1) := by decide +kernel
theorem dX5_standBehind_2 : decode cX5_standBehind 2 = .ok (.invokevirtual 39, 3) := by decide +kernel
theorem dX5_standBehind_5 : decode cX5_standBehind 5 = .ok (.iconst 1, 1) := by decide +kernel
theorem dX5_standBehind_6 : decode cX5_standBehind 6 = .ok (.iadd, 1) := by decide +kernel
theorem dX5_standBehind_7 : decode cX5_standBehind 7 = .ok (.istore_n 3, 1) := by decide +kernel
theorem dX5_standBehind_8 : decode cX5_standBehind 8 = .ok (.aload_n 0, 1) := by decide +kernel
theorem dX5_standBehind_9 : decode cX5_standBehind 9 = .ok (.iload_n 1, 1) := by decide +kernel
theorem dX5_standBehind_10 : decode cX5_standBehind 10 = .ok (.aload_n 0, 1) := by decide +kernel
theorem dX5_standBehind_11 : decode cX5_standBehind 11 = .ok (.iload_n 1, 1) := by decide +kernel
theorem dX5_standBehind_12 : decode cX5_standBehind 12 = .ok (.invokevirtual 39, 3) := by decide +kernel
theorem dX5_standBehind_15 : decode cX5_standBehind 15 = .ok (.iload_n 3, 1) := by decide +kernel
theorem dX5_standBehind_16 : decode cX5_standBehind 16 = .ok (.if_icmp .ge 9, 3) := by decide +kernel
theorem dX5_standBehind_19 : decode cX5_standBehind 19 = .ok (.iload_n 3, 1) := by decide +kernel
theorem dX5_standBehind_20 : decode cX5_standBehind 20 = .ok (.iconst 1, 1) := by decide +kernel
theorem dX5_standBehind_21 : decode cX5_standBehind 21 = .ok (.isub, 1) := by decide +kernel
theorem dX5_standBehind_22 : decode cX5_standBehind 22 = .ok (.goto 4, 3) := by decide +kernel
theorem dX5_standBehind_25 : decode cX5_standBehind 25 = .ok (.iload_n 3, 1) := by decide +kernel
theorem dX5_standBehind_26 : decode cX5_standBehind 26 = .ok (.invokevirtual 43, 3) := by decide +kernel
theorem dX5_standBehind_29 : decode cX5_standBehind 29 = .ok (.aload_n 0, 1) := by decide +kernel
theorem dX5_standBehind_30 : decode cX5_standBehind 30 = .ok (.iload_n 1, 1) := by decide +kernel
theorem dX5_standBehind_31 : decode cX5_standBehind 31 = .ok (.iconst 1, 1) := by decide +kernel
theorem dX5_standBehind_32 : decode cX5_standBehind 32 = .ok (.aload_n 0, 1) := by decide +kernel
theorem dX5_standBehind_33 : decode cX5_standBehind 33 = .ok (.iload_n 2, 1) := by decide +kernel
theorem dX5_standBehind_34 : decode cX5_standBehind 34 = .ok (.iconst 1, 1) := by decide +kernel
theorem dX5_standBehind_35 : decode cX5_standBehind 35 = .ok (.invokevirtual 32, 3) := by decide +kernel
theorem dX5_standBehind_38 : decode cX5_standBehind 38 = .ok (.invokevirtual 47, 3) := by decide +kernel
theorem dX5_standBehind_41 : decode cX5_standBehind 41 = .ok (.return_, 1) := by decide +kernel
theorem dX5_haveAllFallen_0 : decode cX5_haveAllFallen 0 = .ok (.iconst 1, 1) := by decide +kernel
theorem dX5_haveAllFallen_1 : decode cX5_haveAllFallen 1 = .ok (.istore_n 1, 1) := by decide +kernel
theorem dX5_haveAllFallen_2 : decode cX5_haveAllFallen 2 = .ok (.iconst 0, 1) := by decide +kernel
theorem dX5_haveAllFallen_3 : decode cX5_haveAllFallen 3 = .ok (.istore_n 2, 1) := by decide +kernel
theorem dX5_haveAllFallen_4 : decode cX5_haveAllFallen 4 = .ok (.iload_n 2, 1) := by decide +kernel
theorem dX5_haveAllFallen_5 : decode cX5_haveAllFallen 5 = .ok (.aload_n 0, 1) := by decide +kernel
theorem dX5_haveAllFallen_6 : decode cX5_haveAllFallen 6 = .ok (.getfield 7, 3) := by decide +kernel
theorem dX5_haveAllFallen_9 : decode cX5_haveAllFallen 9 = .ok (.iconst 0, 1) := by decide +kernel
theorem dX5_haveAllFallen_10 : decode cX5_haveAllFallen 10 = .ok (.iaload, 1) := by decide +kernel
theorem dX5_haveAllFallen_11 : decode cX5_haveAllFallen 11 = .ok (.if_icmp .ge 27, 3) := by decide +kernel
theorem dX5_haveAllFallen_14 : decode cX5_haveAllFallen 14 = .ok (.iload_n 1, 1) := by decide +kernel
theorem dX5_haveAllFallen_15 : decode cX5_haveAllFallen 15 = .ok (.ifCond .eq 15, 3) := by decide +kernel
theorem dX5_haveAllFallen_18 : decode cX5_haveAllFallen 18 = .ok (.aload_n 0, 1) := by decide +kernel
theorem dX5_haveAllFallen_19 : decode cX5_haveAllFallen 19 = .ok (.iload_n 2, 1) := by decide +kernel
theorem dX5_haveAllFallen_20 : decode cX5_haveAllFallen 20 = .ok (.invokevirtual 51, 3) := by decide +kernel
theorem dX5_haveAllFallen_23 : decode cX5_haveAllFallen 23 = .ok (.ifCond .eq 7, 3) := by decide +kernel
theorem dX5_haveAllFallen_26 : decode cX5_haveAllFallen 26 = .ok (.iconst 1, 1) := by decide +kernel
theorem dX5_haveAllFallen_27 : decode cX5_haveAllFallen 27 = .ok (.goto 4, 3) := by decide +kernel
theorem dX5_haveAllFallen_30 : decode cX5_haveAllFallen 30 = .ok (.iconst 0, 1) := by decide +kernel
theorem dX5_haveAllFallen_31 : decode cX5_haveAllFallen 31 = .ok (.istore_n 1, 1) := by decide +kernel
theorem dX5_haveAllFallen_32 : decode cX5_haveAllFallen 32 = .ok (.iinc 2 1, 3) := by decide +kernel
theorem dX5_haveAllFallen_35 : decode cX5_haveAllFallen 35 = .ok (.goto (-31), 3) := by decide +kernel
theorem dX5_haveAllFallen_38 : decode cX5_haveAllFallen 38 = .ok (.iload_n 1, 1) := by decide +kernel
theorem dX5_haveAllFallen_39 : decode cX5_haveAllFallen 39 = .ok (.ireturn, 1) := by decide +kernel
theorem dX5_endDelays_0 : decode cX5_endDelays 0 = .ok (.iconst 0, 1) := by decide +kernel
theorem dX5_endDelays_1 : decode cX5_endDelays 1 = .ok (.istore_n 1, 1) := by decide +kernel
theorem dX5_endDelays_2 : decode cX5_endDelays 2 = .ok (.iload_n 1, 1) := by decide +kernel
theorem dX5_endDelays_3 : decode cX5_endDelays 3 = .ok (.aload_n 0, 1) := by decide +kernel
theorem dX5_endDelays_4 : decode cX5_endDelays 4 = .ok (.getfield 7, 3) := by decide +kernel
theorem dX5_endDelays_7 : decode cX5_endDelays 7 = .ok (.iconst 0, 1) := by decide +kernel
theorem dX5_endDelays_8 : decode cX5_endDelays 8 = .ok (.iaload, 1) := by decide +kernel
theorem dX5_endDelays_9 : decode cX5_endDelays 9 = .ok (.if_icmp .ge 17, 3) := by decide +kernel
theorem dX5_endDelays_12 : decode cX5_endDelays 12 = .ok (.aload_n 0, 1) := by decide +kernel
theorem dX5_endDelays_13 : decode cX5_endDelays 13 = .ok (.iload_n 1, 1) := by decide +kernel
theorem dX5_endDelays_14 : decode cX5_endDelays 14 = .ok (.bipush 6, 2) := by decide +kernel
theorem dX5_endDelays_16 : decode cX5_endDelays 16 = .ok (.iconst 0, 1) := by decide +kernel
theorem dX5_endDelays_17 : decode cX5_endDelays 17 = .ok (.invokevirtual 47, 3) := by decide +kernel
theorem dX5_endDelays_20 : decode cX5_endDelays 20 = .ok (.iinc 1 1, 3) := by decide +kernel
theorem dX5_endDelays_23 : decode cX5_endDelays 23 = .ok (.goto (-21), 3) := by decide +kernel
theorem dX5_endDelays_26 : decode cX5_endDelays 26 = .ok (.return_, 1) := by decide +kernel
theorem dX5_nextFrom_0 : decode cX5_nextFrom 0 = .ok (.iload_n 1, 1) := by decide +kernel
theorem dX5_nextFrom_1 : decode cX5_nextFrom 1 = .ok (.istore_n 2, 1) := by decide +kernel
theorem dX5_nextFrom_2 : decode cX5_nextFrom 2 = .ok (.iload_n 2, 1) := by decide +kernel
theorem dX5_nextFrom_3 : decode cX5_nextFrom 3 = .ok (.aload_n 0, 1) := by decide +kernel
theorem dX5_nextFrom_4 : decode cX5_nextFrom 4 = .ok (.getfield 7, 3) := by decide +kernel
theorem dX5_nextFrom_7 : decode cX5_nextFrom 7 = .ok (.iconst 0, 1) := by decide +kernel
theorem dX5_nextFrom_8 : decode cX5_nextFrom 8 = .ok (.iaload, 1) := by decide +kernel
theorem dX5_nextFrom_9 : decode cX5_nextFrom 9 = .ok (.if_icmp .ge 39, 3) := by decide +kernel
theorem dX5_nextFrom_12 : decode cX5_nextFrom 12 = .ok (.aload_n 0, 1) := by decide +kernel
theorem dX5_nextFrom_13 : decode cX5_nextFrom 13 = .ok (.getfield 7, 3) := by decide +kernel
theorem dX5_nextFrom_16 : decode cX5_nextFrom 16 = .ok (.bipush 6, 2) := by decide +kernel
theorem dX5_nextFrom_18 : decode cX5_nextFrom 18 = .ok (.iload_n 2, 1) := by decide +kernel
theorem dX5_nextFrom_19 : decode cX5_nextFrom 19 = .ok (.iadd, 1) := by decide +kernel
theorem dX5_nextFrom_20 : decode cX5_nextFrom 20 = .ok (.iaload, 1) := by decide +kernel
theorem dX5_nextFrom_21 : decode cX5_nextFrom 21 = .ok (.istore_n 3, 1) := by decide +kernel
theorem dX5_nextFrom_22 : decode cX5_nextFrom 22 = .ok (.aload_n 0, 1) := by decide +kernel
theorem dX5_nextFrom_23 : decode cX5_nextFrom 23 = .ok (.iload_n 3, 1) := by decide +kernel
theorem dX5_nextFrom_24 : decode cX5_nextFrom 24 = .ok (.invokevirtual 51, 3) := by decide +kernel
theorem dX5_nextFrom_27 : decode cX5_nextFrom 27 = .ok (.ifCond .ne 15, 3) := by decide +kernel
theorem dX5_nextFrom_30 : decode cX5_nextFrom 30 = .ok (.aload_n 0, 1) := by decide +kernel
theorem dX5_nextFrom_31 : decode cX5_nextFrom 31 = .ok (.iload_n 3, 1) := by decide +kernel
theorem dX5_nextFrom_32 : decode cX5_nextFrom 32 = .ok (.bipush 6, 2) := by decide +kernel
theorem dX5_nextFrom_34 : decode cX5_nextFrom 34 = .ok (.invokevirtual 32, 3) := by decide +kernel
theorem dX5_nextFrom_37 : decode cX5_nextFrom 37 = .ok (.ifCond .ne 5, 3) := by decide +kernel
theorem dX5_nextFrom_40 : decode cX5_nextFrom 40 = .ok (.iload_n 3, 1) := by decide +kernel
theorem dX5_nextFrom_41 : decode cX5_nextFrom 41 = .ok (.ireturn, 1) := by decide +kernel
theorem dX5_nextFrom_42 : decode cX5_nextFrom 42 = .ok (.iinc 2 1, 3) := by decide +kernel
theorem dX5_nextFrom_45 : decode cX5_nextFrom 45 = .ok (.goto (-43), 3) := by decide +kernel
theorem dX5_nextFrom_48 : decode cX5_nextFrom 48 = .ok (.iconst (-1), 1) := by decide +kernel
theorem dX5_nextFrom_49 : decode cX5_nextFrom 49 = .ok (.ireturn, 1) := by decide +kernel
theorem dX5_loseReadied_0 : decode cX5_loseReadied 0 = .ok (.aload_n 0, 1) := by decide +kernel
theorem dX5_loseReadied_1 : decode cX5_loseReadied 1 = .ok (.iload_n 1, 1) := by decide +kernel
theorem dX5_loseReadied_2 : decode cX5_loseReadied 2 = .ok (.bipush 7, 2) := by decide +kernel
theorem dX5_loseReadied_4 : decode cX5_loseReadied 4 = .ok (.iconst (-1), 1) := by decide +kernel
theorem dX5_loseReadied_5 : decode cX5_loseReadied 5 = .ok (.invokevirtual 47, 3) := by decide +kernel
theorem dX5_loseReadied_8 : decode cX5_loseReadied 8 = .ok (.aload_n 0, 1) := by decide +kernel
theorem dX5_loseReadied_9 : decode cX5_loseReadied 9 = .ok (.iload_n 1, 1) := by decide +kernel
theorem dX5_loseReadied_10 : decode cX5_loseReadied 10 = .ok (.bipush 8, 2) := by decide +kernel
theorem dX5_loseReadied_12 : decode cX5_loseReadied 12 = .ok (.iconst (-1), 1) := by decide +kernel
theorem dX5_loseReadied_13 : decode cX5_loseReadied 13 = .ok (.invokevirtual 47, 3) := by decide +kernel
theorem dX5_loseReadied_16 : decode cX5_loseReadied 16 = .ok (.aload_n 0, 1) := by decide +kernel
theorem dX5_loseReadied_17 : decode cX5_loseReadied 17 = .ok (.iload_n 1, 1) := by decide +kernel
theorem dX5_loseReadied_18 : decode cX5_loseReadied 18 = .ok (.bipush 9, 2) := by decide +kernel
theorem dX5_loseReadied_20 : decode cX5_loseReadied 20 = .ok (.iconst (-1), 1) := by decide +kernel
theorem dX5_loseReadied_21 : decode cX5_loseReadied 21 = .ok (.invokevirtual 47, 3) := by decide +kernel
theorem dX5_loseReadied_24 : decode cX5_loseReadied 24 = .ok (.aload_n 0, 1) := by decide +kernel
theorem dX5_loseReadied_25 : decode cX5_loseReadied 25 = .ok (.iload_n 1, 1) := by decide +kernel
theorem dX5_loseReadied_26 : decode cX5_loseReadied 26 = .ok (.bipush 10, 2) := by decide +kernel
theorem dX5_loseReadied_28 : decode cX5_loseReadied 28 = .ok (.iconst (-1), 1) := by decide +kernel
theorem dX5_loseReadied_29 : decode cX5_loseReadied 29 = .ok (.invokevirtual 47, 3) := by decide +kernel
theorem dX5_loseReadied_32 : decode cX5_loseReadied 32 = .ok (.return_, 1) := by decide +kernel
theorem dX5_endConditions_0 : decode cX5_endConditions 0 = .ok (.iconst 0, 1) := by decide +kernel
theorem dX5_endConditions_1 : decode cX5_endConditions 1 = .ok (.istore_n 2, 1) := by decide +kernel
theorem dX5_endConditions_2 : decode cX5_endConditions 2 = .ok (.iload_n 2, 1) := by decide +kernel
theorem dX5_endConditions_3 : decode cX5_endConditions 3 = .ok (.iconst 4, 1) := by decide +kernel
theorem dX5_endConditions_4 : decode cX5_endConditions 4 = .ok (.if_icmp .ge 42, 3) := by decide +kernel
theorem dX5_endConditions_7 : decode cX5_endConditions 7 = .ok (.aload_n 0, 1) := by decide +kernel
theorem dX5_endConditions_8 : decode cX5_endConditions 8 = .ok (.iload_n 1, 1) := by decide +kernel
theorem dX5_endConditions_9 : decode cX5_endConditions 9 = .ok (.bipush 11, 2) := by decide +kernel
theorem dX5_endConditions_11 : decode cX5_endConditions 11 = .ok (.iload_n 2, 1) := by decide +kernel
theorem dX5_endConditions_12 : decode cX5_endConditions 12 = .ok (.iadd, 1) := by decide +kernel
theorem dX5_endConditions_13 : decode cX5_endConditions 13 = .ok (.aload_n 0, 1) := by decide +kernel
theorem dX5_endConditions_14 : decode cX5_endConditions 14 = .ok (.iload_n 1, 1) := by decide +kernel
theorem dX5_endConditions_15 : decode cX5_endConditions 15 = .ok (.iload_n 2, 1) := by decide +kernel
theorem dX5_endConditions_16 : decode cX5_endConditions 16 = .ok (.invokevirtual 55, 3) := by decide +kernel
theorem dX5_endConditions_19 : decode cX5_endConditions 19 = .ok (.ifCond .eq 17, 3) := by decide +kernel
theorem dX5_endConditions_22 : decode cX5_endConditions 22 = .ok (.aload_n 0, 1) := by decide +kernel
theorem dX5_endConditions_23 : decode cX5_endConditions 23 = .ok (.iload_n 1, 1) := by decide +kernel
theorem dX5_endConditions_24 : decode cX5_endConditions 24 = .ok (.bipush 11, 2) := by decide +kernel
theorem dX5_endConditions_26 : decode cX5_endConditions 26 = .ok (.iload_n 2, 1) := by decide +kernel
theorem dX5_endConditions_27 : decode cX5_endConditions 27 = .ok (.iadd, 1) := by decide +kernel
theorem dX5_endConditions_28 : decode cX5_endConditions 28 = .ok (.invokevirtual 32, 3) := by decide +kernel
theorem dX5_endConditions_31 : decode cX5_endConditions 31 = .ok (.iconst 1, 1) := by decide +kernel
theorem dX5_endConditions_32 : decode cX5_endConditions 32 = .ok (.isub, 1) := by decide +kernel
theorem dX5_endConditions_33 : decode cX5_endConditions 33 = .ok (.goto 4, 3) := by decide +kernel
theorem dX5_endConditions_36 : decode cX5_endConditions 36 = .ok (.iconst 0, 1) := by decide +kernel
theorem dX5_endConditions_37 : decode cX5_endConditions 37 = .ok (.invokevirtual 47, 3) := by decide +kernel
theorem dX5_endConditions_40 : decode cX5_endConditions 40 = .ok (.iinc 2 1, 3) := by decide +kernel
theorem dX5_endConditions_43 : decode cX5_endConditions 43 = .ok (.goto (-41), 3) := by decide +kernel
theorem dX5_endConditions_46 : decode cX5_endConditions 46 = .ok (.return_, 1) := by decide +kernel
theorem dX5_beginTurn_0 : decode cX5_beginTurn 0 = .ok (.aload_n 0, 1) := by decide +kernel
theorem dX5_beginTurn_1 : decode cX5_beginTurn 1 = .ok (.getfield 7, 3) := by decide +kernel
theorem dX5_beginTurn_4 : decode cX5_beginTurn 4 = .ok (.iconst 2, 1) := by decide +kernel
theorem dX5_beginTurn_5 : decode cX5_beginTurn 5 = .ok (.iload_n 1, 1) := by decide +kernel
theorem dX5_beginTurn_6 : decode cX5_beginTurn 6 = .ok (.iastore, 1) := by decide +kernel
theorem dX5_beginTurn_7 : decode cX5_beginTurn 7 = .ok (.aload_n 0, 1) := by decide +kernel
theorem dX5_beginTurn_8 : decode cX5_beginTurn 8 = .ok (.getfield 7, 3) := by decide +kernel
theorem dX5_beginTurn_11 : decode cX5_beginTurn 11 = .ok (.iconst 5, 1) := by decide +kernel
theorem dX5_beginTurn_12 : decode cX5_beginTurn 12 = .ok (.dup2, 1) := by decide +kernel
theorem dX5_beginTurn_13 : decode cX5_beginTurn 13 = .ok (.iaload, 1) := by decide +kernel
theorem dX5_beginTurn_14 : decode cX5_beginTurn 14 = .ok (.iconst 1, 1) := by decide +kernel
theorem dX5_beginTurn_15 : decode cX5_beginTurn 15 = .ok (.iadd, 1) := by decide +kernel
theorem dX5_beginTurn_16 : decode cX5_beginTurn 16 = .ok (.iastore, 1) := by decide +kernel
theorem dX5_beginTurn_17 : decode cX5_beginTurn 17 = .ok (.aload_n 0, 1) := by decide +kernel
theorem dX5_beginTurn_18 : decode cX5_beginTurn 18 = .ok (.iload_n 1, 1) := by decide +kernel
theorem dX5_beginTurn_19 : decode cX5_beginTurn 19 = .ok (.invokevirtual 59, 3) := by decide +kernel
theorem dX5_beginTurn_22 : decode cX5_beginTurn 22 = .ok (.aload_n 0, 1) := by decide +kernel
theorem dX5_beginTurn_23 : decode cX5_beginTurn 23 = .ok (.iload_n 1, 1) := by decide +kernel
theorem dX5_beginTurn_24 : decode cX5_beginTurn 24 = .ok (.iconst 3, 1) := by decide +kernel
theorem dX5_beginTurn_25 : decode cX5_beginTurn 25 = .ok (.invokevirtual 55, 3) := by decide +kernel
theorem dX5_beginTurn_28 : decode cX5_beginTurn 28 = .ok (.ifCond .eq 31, 3) := by decide +kernel
theorem dX5_beginTurn_31 : decode cX5_beginTurn 31 = .ok (.aload_n 0, 1) := by decide +kernel
theorem dX5_beginTurn_32 : decode cX5_beginTurn 32 = .ok (.iload_n 1, 1) := by decide +kernel
theorem dX5_beginTurn_33 : decode cX5_beginTurn 33 = .ok (.iconst 2, 1) := by decide +kernel
theorem dX5_beginTurn_34 : decode cX5_beginTurn 34 = .ok (.aload_n 0, 1) := by decide +kernel
theorem dX5_beginTurn_35 : decode cX5_beginTurn 35 = .ok (.iload_n 1, 1) := by decide +kernel
theorem dX5_beginTurn_36 : decode cX5_beginTurn 36 = .ok (.iconst 2, 1) := by decide +kernel
theorem dX5_beginTurn_37 : decode cX5_beginTurn 37 = .ok (.invokevirtual 32, 3) := by decide +kernel
theorem dX5_beginTurn_40 : decode cX5_beginTurn 40 = .ok (.iconst 2, 1) := by decide +kernel
theorem dX5_beginTurn_41 : decode cX5_beginTurn 41 = .ok (.if_icmp .ge 7, 3) := by decide +kernel
theorem dX5_beginTurn_44 : decode cX5_beginTurn 44 = .ok (.iconst 0, 1) := by decide +kernel
theorem dX5_beginTurn_45 : decode cX5_beginTurn 45 = .ok (.goto 11, 3) := by decide +kernel
theorem dX5_beginTurn_48 : decode cX5_beginTurn 48 = .ok (.aload_n 0, 1) := by decide +kernel
theorem dX5_beginTurn_49 : decode cX5_beginTurn 49 = .ok (.iload_n 1, 1) := by decide +kernel
theorem dX5_beginTurn_50 : decode cX5_beginTurn 50 = .ok (.iconst 2, 1) := by decide +kernel
theorem dX5_beginTurn_51 : decode cX5_beginTurn 51 = .ok (.invokevirtual 32, 3) := by decide +kernel
theorem dX5_beginTurn_54 : decode cX5_beginTurn 54 = .ok (.iconst 2, 1) := by decide +kernel
theorem dX5_beginTurn_55 : decode cX5_beginTurn 55 = .ok (.isub, 1) := by decide +kernel
theorem dX5_beginTurn_56 : decode cX5_beginTurn 56 = .ok (.invokevirtual 47, 3) := by decide +kernel
theorem dX5_beginTurn_59 : decode cX5_beginTurn 59 = .ok (.aload_n 0, 1) := by decide +kernel
theorem dX5_beginTurn_60 : decode cX5_beginTurn 60 = .ok (.iload_n 1, 1) := by decide +kernel
theorem dX5_beginTurn_61 : decode cX5_beginTurn 61 = .ok (.invokevirtual 51, 3) := by decide +kernel
theorem dX5_beginTurn_64 : decode cX5_beginTurn 64 = .ok (.ifCond .ne 16, 3) := by decide +kernel
theorem dX5_beginTurn_67 : decode cX5_beginTurn 67 = .ok (.aload_n 0, 1) := by decide +kernel
theorem dX5_beginTurn_68 : decode cX5_beginTurn 68 = .ok (.iload_n 1, 1) := by decide +kernel
theorem dX5_beginTurn_69 : decode cX5_beginTurn 69 = .ok (.iconst 0, 1) := by decide +kernel
theorem dX5_beginTurn_70 : decode cX5_beginTurn 70 = .ok (.invokevirtual 55, 3) := by decide +kernel
theorem dX5_beginTurn_73 : decode cX5_beginTurn 73 = .ok (.ifCond .ne 7, 3) := by decide +kernel
theorem dX5_beginTurn_76 : decode cX5_beginTurn 76 = .ok (.iconst 1, 1) := by decide +kernel
theorem dX5_beginTurn_77 : decode cX5_beginTurn 77 = .ok (.goto 4, 3) := by decide +kernel
theorem dX5_beginTurn_80 : decode cX5_beginTurn 80 = .ok (.iconst 0, 1) := by decide +kernel
theorem dX5_beginTurn_81 : decode cX5_beginTurn 81 = .ok (.ireturn, 1) := by decide +kernel
theorem dX5_goOn_0 : decode cX5_goOn 0 = .ok (.iload_n 1, 1) := by decide +kernel
theorem dX5_goOn_1 : decode cX5_goOn 1 = .ok (.istore_n 2, 1) := by decide +kernel
theorem dX5_goOn_2 : decode cX5_goOn 2 = .ok (.aload_n 0, 1) := by decide +kernel
theorem dX5_goOn_3 : decode cX5_goOn 3 = .ok (.invokevirtual 63, 3) := by decide +kernel
theorem dX5_goOn_6 : decode cX5_goOn 6 = .ok (.ifCond .ne 59, 3) := by decide +kernel
theorem dX5_goOn_9 : decode cX5_goOn 9 = .ok (.aload_n 0, 1) := by decide +kernel
theorem dX5_goOn_10 : decode cX5_goOn 10 = .ok (.iload_n 2, 1) := by decide +kernel
theorem dX5_goOn_11 : decode cX5_goOn 11 = .ok (.invokevirtual 67, 3) := by decide +kernel
theorem dX5_goOn_14 : decode cX5_goOn 14 = .ok (.istore_n 3, 1) := by decide +kernel
theorem dX5_goOn_15 : decode cX5_goOn 15 = .ok (.iload_n 3, 1) := by decide +kernel
theorem dX5_goOn_16 : decode cX5_goOn 16 = .ok (.iconst (-1), 1) := by decide +kernel
theorem dX5_goOn_17 : decode cX5_goOn 17 = .ok (.if_icmp .ne 23, 3) := by decide +kernel
theorem dX5_goOn_20 : decode cX5_goOn 20 = .ok (.aload_n 0, 1) := by decide +kernel
theorem dX5_goOn_21 : decode cX5_goOn 21 = .ok (.getfield 7, 3) := by decide +kernel
theorem dX5_goOn_24 : decode cX5_goOn 24 = .ok (.iconst 1, 1) := by decide +kernel
theorem dX5_goOn_25 : decode cX5_goOn 25 = .ok (.dup2, 1) := by decide +kernel
theorem dX5_goOn_26 : decode cX5_goOn 26 = .ok (.iaload, 1) := by decide +kernel
theorem dX5_goOn_27 : decode cX5_goOn 27 = .ok (.iconst 1, 1) := by decide +kernel
theorem dX5_goOn_28 : decode cX5_goOn 28 = .ok (.iadd, 1) := by decide +kernel
theorem dX5_goOn_29 : decode cX5_goOn 29 = .ok (.iastore, 1) := by decide +kernel
theorem dX5_goOn_30 : decode cX5_goOn 30 = .ok (.aload_n 0, 1) := by decide +kernel
theorem dX5_goOn_31 : decode cX5_goOn 31 = .ok (.invokevirtual 70, 3) := by decide +kernel
theorem dX5_goOn_34 : decode cX5_goOn 34 = .ok (.aload_n 0, 1) := by decide +kernel
theorem dX5_goOn_35 : decode cX5_goOn 35 = .ok (.iconst 0, 1) := by decide +kernel
theorem dX5_goOn_36 : decode cX5_goOn 36 = .ok (.invokevirtual 67, 3) := by decide +kernel
theorem dX5_goOn_39 : decode cX5_goOn 39 = .ok (.istore_n 3, 1) := by decide +kernel
theorem dX5_goOn_40 : decode cX5_goOn 40 = .ok (.aload_n 0, 1) := by decide +kernel
theorem dX5_goOn_41 : decode cX5_goOn 41 = .ok (.iload_n 3, 1) := by decide +kernel
theorem dX5_goOn_42 : decode cX5_goOn 42 = .ok (.invokevirtual 73, 3) := by decide +kernel
theorem dX5_goOn_45 : decode cX5_goOn 45 = .ok (.ifCond .eq 4, 3) := by decide +kernel
theorem dX5_goOn_48 : decode cX5_goOn 48 = .ok (.return_, 1) := by decide +kernel
theorem dX5_goOn_49 : decode cX5_goOn 49 = .ok (.aload_n 0, 1) := by decide +kernel
theorem dX5_goOn_50 : decode cX5_goOn 50 = .ok (.iload_n 3, 1) := by decide +kernel
theorem dX5_goOn_51 : decode cX5_goOn 51 = .ok (.invokevirtual 76, 3) := by decide +kernel
theorem dX5_goOn_54 : decode cX5_goOn 54 = .ok (.aload_n 0, 1) := by decide +kernel
theorem dX5_goOn_55 : decode cX5_goOn 55 = .ok (.iload_n 3, 1) := by decide +kernel
theorem dX5_goOn_56 : decode cX5_goOn 56 = .ok (.invokevirtual 39, 3) := by decide +kernel
theorem dX5_goOn_59 : decode cX5_goOn 59 = .ok (.iconst 1, 1) := by decide +kernel
theorem dX5_goOn_60 : decode cX5_goOn 60 = .ok (.iadd, 1) := by decide +kernel
theorem dX5_goOn_61 : decode cX5_goOn 61 = .ok (.istore_n 2, 1) := by decide +kernel
theorem dX5_goOn_62 : decode cX5_goOn 62 = .ok (.goto (-60), 3) := by decide +kernel
theorem dX5_goOn_65 : decode cX5_goOn 65 = .ok (.aload_n 0, 1) := by decide +kernel
theorem dX5_goOn_66 : decode cX5_goOn 66 = .ok (.getfield 7, 3) := by decide +kernel
theorem dX5_goOn_69 : decode cX5_goOn 69 = .ok (.iconst 2, 1) := by decide +kernel
theorem dX5_goOn_70 : decode cX5_goOn 70 = .ok (.iconst (-1), 1) := by decide +kernel
theorem dX5_goOn_71 : decode cX5_goOn 71 = .ok (.iastore, 1) := by decide +kernel
theorem dX5_goOn_72 : decode cX5_goOn 72 = .ok (.return_, 1) := by decide +kernel
theorem dX5_endTurn_0 : decode cX5_endTurn 0 = .ok (.aload_n 0, 1) := by decide +kernel
theorem dX5_endTurn_1 : decode cX5_endTurn 1 = .ok (.getfield 7, 3) := by decide +kernel
theorem dX5_endTurn_4 : decode cX5_endTurn 4 = .ok (.iconst 2, 1) := by decide +kernel
theorem dX5_endTurn_5 : decode cX5_endTurn 5 = .ok (.iaload, 1) := by decide +kernel
theorem dX5_endTurn_6 : decode cX5_endTurn 6 = .ok (.istore_n 1, 1) := by decide +kernel
theorem dX5_endTurn_7 : decode cX5_endTurn 7 = .ok (.aload_n 0, 1) := by decide +kernel
theorem dX5_endTurn_8 : decode cX5_endTurn 8 = .ok (.iload_n 1, 1) := by decide +kernel
theorem dX5_endTurn_9 : decode cX5_endTurn 9 = .ok (.invokevirtual 76, 3) := by decide +kernel
theorem dX5_endTurn_12 : decode cX5_endTurn 12 = .ok (.aload_n 0, 1) := by decide +kernel
theorem dX5_endTurn_13 : decode cX5_endTurn 13 = .ok (.aload_n 0, 1) := by decide +kernel
theorem dX5_endTurn_14 : decode cX5_endTurn 14 = .ok (.iload_n 1, 1) := by decide +kernel
theorem dX5_endTurn_15 : decode cX5_endTurn 15 = .ok (.invokevirtual 39, 3) := by decide +kernel
theorem dX5_endTurn_18 : decode cX5_endTurn 18 = .ok (.iconst 1, 1) := by decide +kernel
theorem dX5_endTurn_19 : decode cX5_endTurn 19 = .ok (.iadd, 1) := by decide +kernel
theorem dX5_endTurn_20 : decode cX5_endTurn 20 = .ok (.invokevirtual 79, 3) := by decide +kernel
theorem dX5_endTurn_23 : decode cX5_endTurn 23 = .ok (.return_, 1) := by decide +kernel
theorem dX5_begin_0 : decode cX5_begin 0 = .ok (.aload_n 0, 1) := by decide +kernel
theorem dX5_begin_1 : decode cX5_begin 1 = .ok (.iconst 0, 1) := by decide +kernel
theorem dX5_begin_2 : decode cX5_begin 2 = .ok (.putfield 28, 3) := by decide +kernel
theorem dX5_begin_5 : decode cX5_begin 5 = .ok (.aload_n 0, 1) := by decide +kernel
theorem dX5_begin_6 : decode cX5_begin 6 = .ok (.invokevirtual 82, 3) := by decide +kernel
theorem dX5_begin_9 : decode cX5_begin 9 = .ok (.iconst 0, 1) := by decide +kernel
theorem dX5_begin_10 : decode cX5_begin 10 = .ok (.istore_n 1, 1) := by decide +kernel
theorem dX5_begin_11 : decode cX5_begin 11 = .ok (.iload_n 1, 1) := by decide +kernel
theorem dX5_begin_12 : decode cX5_begin 12 = .ok (.aload_n 0, 1) := by decide +kernel
theorem dX5_begin_13 : decode cX5_begin 13 = .ok (.getfield 7, 3) := by decide +kernel
theorem dX5_begin_16 : decode cX5_begin 16 = .ok (.iconst 0, 1) := by decide +kernel
theorem dX5_begin_17 : decode cX5_begin 17 = .ok (.iaload, 1) := by decide +kernel
theorem dX5_begin_18 : decode cX5_begin 18 = .ok (.if_icmp .ge 76, 3) := by decide +kernel
theorem dX5_begin_21 : decode cX5_begin 21 = .ok (.iload_n 1, 1) := by decide +kernel
theorem dX5_begin_22 : decode cX5_begin 22 = .ok (.istore_n 2, 1) := by decide +kernel
theorem dX5_begin_23 : decode cX5_begin 23 = .ok (.iload_n 2, 1) := by decide +kernel
theorem dX5_begin_24 : decode cX5_begin 24 = .ok (.ifCond .le 54, 3) := by decide +kernel
theorem dX5_begin_27 : decode cX5_begin 27 = .ok (.aload_n 0, 1) := by decide +kernel
theorem dX5_begin_28 : decode cX5_begin 28 = .ok (.aload_n 0, 1) := by decide +kernel
theorem dX5_begin_29 : decode cX5_begin 29 = .ok (.getfield 7, 3) := by decide +kernel
theorem dX5_begin_32 : decode cX5_begin 32 = .ok (.bipush 6, 2) := by decide +kernel
theorem dX5_begin_34 : decode cX5_begin 34 = .ok (.iload_n 2, 1) := by decide +kernel
theorem dX5_begin_35 : decode cX5_begin 35 = .ok (.iadd, 1) := by decide +kernel
theorem dX5_begin_36 : decode cX5_begin 36 = .ok (.iconst 1, 1) := by decide +kernel
theorem dX5_begin_37 : decode cX5_begin 37 = .ok (.isub, 1) := by decide +kernel
theorem dX5_begin_38 : decode cX5_begin 38 = .ok (.iaload, 1) := by decide +kernel
theorem dX5_begin_39 : decode cX5_begin 39 = .ok (.iconst 1, 1) := by decide +kernel
theorem dX5_begin_40 : decode cX5_begin 40 = .ok (.invokevirtual 32, 3) := by decide +kernel
theorem dX5_begin_43 : decode cX5_begin 43 = .ok (.aload_n 0, 1) := by decide +kernel
theorem dX5_begin_44 : decode cX5_begin 44 = .ok (.iload_n 1, 1) := by decide +kernel
theorem dX5_begin_45 : decode cX5_begin 45 = .ok (.iconst 1, 1) := by decide +kernel
theorem dX5_begin_46 : decode cX5_begin 46 = .ok (.invokevirtual 32, 3) := by decide +kernel
theorem dX5_begin_49 : decode cX5_begin 49 = .ok (.if_icmp .ge 29, 3) := by decide +kernel
theorem dX5_begin_52 : decode cX5_begin 52 = .ok (.aload_n 0, 1) := by decide +kernel
theorem dX5_begin_53 : decode cX5_begin 53 = .ok (.getfield 7, 3) := by decide +kernel
theorem dX5_begin_56 : decode cX5_begin 56 = .ok (.bipush 6, 2) := by decide +kernel
theorem dX5_begin_58 : decode cX5_begin 58 = .ok (.iload_n 2, 1) := by decide +kernel
theorem dX5_begin_59 : decode cX5_begin 59 = .ok (.iadd, 1) := by decide +kernel
theorem dX5_begin_60 : decode cX5_begin 60 = .ok (.aload_n 0, 1) := by decide +kernel
theorem dX5_begin_61 : decode cX5_begin 61 = .ok (.getfield 7, 3) := by decide +kernel
theorem dX5_begin_64 : decode cX5_begin 64 = .ok (.bipush 6, 2) := by decide +kernel
theorem dX5_begin_66 : decode cX5_begin 66 = .ok (.iload_n 2, 1) := by decide +kernel
theorem dX5_begin_67 : decode cX5_begin 67 = .ok (.iadd, 1) := by decide +kernel
theorem dX5_begin_68 : decode cX5_begin 68 = .ok (.iconst 1, 1) := by decide +kernel
theorem dX5_begin_69 : decode cX5_begin 69 = .ok (.isub, 1) := by decide +kernel
theorem dX5_begin_70 : decode cX5_begin 70 = .ok (.iaload, 1) := by decide +kernel
theorem dX5_begin_71 : decode cX5_begin 71 = .ok (.iastore, 1) := by decide +kernel
theorem dX5_begin_72 : decode cX5_begin 72 = .ok (.iinc 2 (-1), 3) := by decide +kernel
theorem dX5_begin_75 : decode cX5_begin 75 = .ok (.goto (-52), 3) := by decide +kernel
theorem dX5_begin_78 : decode cX5_begin 78 = .ok (.aload_n 0, 1) := by decide +kernel
theorem dX5_begin_79 : decode cX5_begin 79 = .ok (.getfield 7, 3) := by decide +kernel
theorem dX5_begin_82 : decode cX5_begin 82 = .ok (.bipush 6, 2) := by decide +kernel
theorem dX5_begin_84 : decode cX5_begin 84 = .ok (.iload_n 2, 1) := by decide +kernel
theorem dX5_begin_85 : decode cX5_begin 85 = .ok (.iadd, 1) := by decide +kernel
theorem dX5_begin_86 : decode cX5_begin 86 = .ok (.iload_n 1, 1) := by decide +kernel
theorem dX5_begin_87 : decode cX5_begin 87 = .ok (.iastore, 1) := by decide +kernel
theorem dX5_begin_88 : decode cX5_begin 88 = .ok (.iinc 1 1, 3) := by decide +kernel
theorem dX5_begin_91 : decode cX5_begin 91 = .ok (.goto (-80), 3) := by decide +kernel
theorem dX5_begin_94 : decode cX5_begin 94 = .ok (.iconst 0, 1) := by decide +kernel
theorem dX5_begin_95 : decode cX5_begin 95 = .ok (.istore_n 1, 1) := by decide +kernel
theorem dX5_begin_96 : decode cX5_begin 96 = .ok (.iload_n 1, 1) := by decide +kernel
theorem dX5_begin_97 : decode cX5_begin 97 = .ok (.aload_n 0, 1) := by decide +kernel
theorem dX5_begin_98 : decode cX5_begin 98 = .ok (.getfield 7, 3) := by decide +kernel
theorem dX5_begin_101 : decode cX5_begin 101 = .ok (.iconst 0, 1) := by decide +kernel
theorem dX5_begin_102 : decode cX5_begin 102 = .ok (.iaload, 1) := by decide +kernel
theorem dX5_begin_103 : decode cX5_begin 103 = .ok (.if_icmp .ge 14, 3) := by decide +kernel
theorem dX5_begin_106 : decode cX5_begin 106 = .ok (.aload_n 0, 1) := by decide +kernel
theorem dX5_begin_107 : decode cX5_begin 107 = .ok (.iload_n 1, 1) := by decide +kernel
theorem dX5_begin_108 : decode cX5_begin 108 = .ok (.invokevirtual 59, 3) := by decide +kernel
theorem dX5_begin_111 : decode cX5_begin 111 = .ok (.iinc 1 1, 3) := by decide +kernel
theorem dX5_begin_114 : decode cX5_begin 114 = .ok (.goto (-18), 3) := by decide +kernel
theorem dX5_begin_117 : decode cX5_begin 117 = .ok (.aload_n 0, 1) := by decide +kernel
theorem dX5_begin_118 : decode cX5_begin 118 = .ok (.invokevirtual 70, 3) := by decide +kernel
theorem dX5_begin_121 : decode cX5_begin 121 = .ok (.aload_n 0, 1) := by decide +kernel
theorem dX5_begin_122 : decode cX5_begin 122 = .ok (.getfield 7, 3) := by decide +kernel
theorem dX5_begin_125 : decode cX5_begin 125 = .ok (.iconst 1, 1) := by decide +kernel
theorem dX5_begin_126 : decode cX5_begin 126 = .ok (.iconst 1, 1) := by decide +kernel
theorem dX5_begin_127 : decode cX5_begin 127 = .ok (.iastore, 1) := by decide +kernel
theorem dX5_begin_128 : decode cX5_begin 128 = .ok (.aload_n 0, 1) := by decide +kernel
theorem dX5_begin_129 : decode cX5_begin 129 = .ok (.iconst 0, 1) := by decide +kernel
theorem dX5_begin_130 : decode cX5_begin 130 = .ok (.invokevirtual 79, 3) := by decide +kernel
theorem dX5_begin_133 : decode cX5_begin 133 = .ok (.aload_n 0, 1) := by decide +kernel
theorem dX5_begin_134 : decode cX5_begin 134 = .ok (.getfield 7, 3) := by decide +kernel
theorem dX5_begin_137 : decode cX5_begin 137 = .ok (.iconst 2, 1) := by decide +kernel
theorem dX5_begin_138 : decode cX5_begin 138 = .ok (.iaload, 1) := by decide +kernel
theorem dX5_begin_139 : decode cX5_begin 139 = .ok (.ireturn, 1) := by decide +kernel
theorem dX5_come_0 : decode cX5_come 0 = .ok (.iload_n 1, 1) := by decide +kernel
theorem dX5_come_1 : decode cX5_come 1 = .ok (.iconst 0, 1) := by decide +kernel
theorem dX5_come_2 : decode cX5_come 2 = .ok (.iconst 1, 1) := by decide +kernel
theorem dX5_come_3 : decode cX5_come 3 = .ok (.invokestatic 85, 3) := by decide +kernel
theorem dX5_come_6 : decode cX5_come 6 = .ok (.ifCond .eq 38, 3) := by decide +kernel
theorem dX5_come_9 : decode cX5_come 9 = .ok (.iload_n 2, 1) := by decide +kernel
theorem dX5_come_10 : decode cX5_come 10 = .ok (.iconst 0, 1) := by decide +kernel
theorem dX5_come_11 : decode cX5_come 11 = .ok (.bipush 40, 2) := by decide +kernel
theorem dX5_come_13 : decode cX5_come 13 = .ok (.invokestatic 85, 3) := by decide +kernel
theorem dX5_come_16 : decode cX5_come 16 = .ok (.ifCond .eq 28, 3) := by decide +kernel
theorem dX5_come_19 : decode cX5_come 19 = .ok (.iload_n 3, 1) := by decide +kernel
theorem dX5_come_20 : decode cX5_come 20 = .ok (.iconst 1, 1) := by decide +kernel
theorem dX5_come_21 : decode cX5_come 21 = .ok (.bipush 99, 2) := by decide +kernel
theorem dX5_come_23 : decode cX5_come 23 = .ok (.invokestatic 85, 3) := by decide +kernel
theorem dX5_come_26 : decode cX5_come 26 = .ok (.ifCond .eq 18, 3) := by decide +kernel
theorem dX5_come_29 : decode cX5_come 29 = .ok (.iload 4, 2) := by decide +kernel
theorem dX5_come_31 : decode cX5_come 31 = .ok (.iconst 1, 1) := by decide +kernel
theorem dX5_come_32 : decode cX5_come 32 = .ok (.bipush 20, 2) := by decide +kernel
theorem dX5_come_34 : decode cX5_come 34 = .ok (.invokestatic 85, 3) := by decide +kernel
theorem dX5_come_37 : decode cX5_come 37 = .ok (.ifCond .eq 7, 3) := by decide +kernel
theorem dX5_come_40 : decode cX5_come 40 = .ok (.iconst 1, 1) := by decide +kernel
theorem dX5_come_41 : decode cX5_come 41 = .ok (.goto 4, 3) := by decide +kernel
theorem dX5_come_44 : decode cX5_come 44 = .ok (.iconst 0, 1) := by decide +kernel
theorem dX5_come_45 : decode cX5_come 45 = .ok (.istore 5, 2) := by decide +kernel
theorem dX5_come_47 : decode cX5_come 47 = .ok (.aload_n 0, 1) := by decide +kernel
theorem dX5_come_48 : decode cX5_come 48 = .ok (.iload 5, 2) := by decide +kernel
theorem dX5_come_50 : decode cX5_come 50 = .ok (.ifCond .ne 7, 3) := by decide +kernel
theorem dX5_come_53 : decode cX5_come 53 = .ok (.iconst 1, 1) := by decide +kernel
theorem dX5_come_54 : decode cX5_come 54 = .ok (.goto 19, 3) := by decide +kernel
theorem dX5_come_57 : decode cX5_come 57 = .ok (.aload_n 0, 1) := by decide +kernel
theorem dX5_come_58 : decode cX5_come 58 = .ok (.getfield 7, 3) := by decide +kernel
theorem dX5_come_61 : decode cX5_come 61 = .ok (.iconst 0, 1) := by decide +kernel
theorem dX5_come_62 : decode cX5_come 62 = .ok (.iaload, 1) := by decide +kernel
theorem dX5_come_63 : decode cX5_come 63 = .ok (.bipush 10, 2) := by decide +kernel
theorem dX5_come_65 : decode cX5_come 65 = .ok (.if_icmp .ne 7, 3) := by decide +kernel
theorem dX5_come_68 : decode cX5_come 68 = .ok (.iconst 2, 1) := by decide +kernel
theorem dX5_come_69 : decode cX5_come 69 = .ok (.goto 4, 3) := by decide +kernel
theorem dX5_come_72 : decode cX5_come 72 = .ok (.iconst 0, 1) := by decide +kernel
theorem dX5_come_73 : decode cX5_come 73 = .ok (.putfield 28, 3) := by decide +kernel
theorem dX5_come_76 : decode cX5_come 76 = .ok (.aload_n 0, 1) := by decide +kernel
theorem dX5_come_77 : decode cX5_come 77 = .ok (.getfield 28, 3) := by decide +kernel
theorem dX5_come_80 : decode cX5_come 80 = .ok (.ifCond .le 5, 3) := by decide +kernel
theorem dX5_come_83 : decode cX5_come 83 = .ok (.iconst 0, 1) := by decide +kernel
theorem dX5_come_84 : decode cX5_come 84 = .ok (.ireturn, 1) := by decide +kernel
theorem dX5_come_85 : decode cX5_come 85 = .ok (.aload_n 0, 1) := by decide +kernel
theorem dX5_come_86 : decode cX5_come 86 = .ok (.invokevirtual 82, 3) := by decide +kernel
theorem dX5_come_89 : decode cX5_come 89 = .ok (.aload_n 0, 1) := by decide +kernel
theorem dX5_come_90 : decode cX5_come 90 = .ok (.getfield 7, 3) := by decide +kernel
theorem dX5_come_93 : decode cX5_come 93 = .ok (.iconst 0, 1) := by decide +kernel
theorem dX5_come_94 : decode cX5_come 94 = .ok (.iaload, 1) := by decide +kernel
theorem dX5_come_95 : decode cX5_come 95 = .ok (.istore 6, 2) := by decide +kernel
theorem dX5_come_97 : decode cX5_come 97 = .ok (.iconst 0, 1) := by decide +kernel
theorem dX5_come_98 : decode cX5_come 98 = .ok (.istore 7, 2) := by decide +kernel
theorem dX5_come_100 : decode cX5_come 100 = .ok (.iload 7, 2) := by decide +kernel
theorem dX5_come_102 : decode cX5_come 102 = .ok (.bipush 17, 2) := by decide +kernel
theorem dX5_come_104 : decode cX5_come 104 = .ok (.if_icmp .ge 18, 3) := by decide +kernel
theorem dX5_come_107 : decode cX5_come 107 = .ok (.aload_n 0, 1) := by decide +kernel
theorem dX5_come_108 : decode cX5_come 108 = .ok (.iload 6, 2) := by decide +kernel
theorem dX5_come_110 : decode cX5_come 110 = .ok (.iload 7, 2) := by decide +kernel
theorem dX5_come_112 : decode cX5_come 112 = .ok (.iconst 0, 1) := by decide +kernel
theorem dX5_come_113 : decode cX5_come 113 = .ok (.invokevirtual 47, 3) := by decide +kernel
theorem dX5_come_116 : decode cX5_come 116 = .ok (.iinc 7 1, 3) := by decide +kernel
theorem dX5_come_119 : decode cX5_come 119 = .ok (.goto (-19), 3) := by decide +kernel
theorem dX5_come_122 : decode cX5_come 122 = .ok (.aload_n 0, 1) := by decide +kernel
theorem dX5_come_123 : decode cX5_come 123 = .ok (.iload 6, 2) := by decide +kernel
theorem dX5_come_125 : decode cX5_come 125 = .ok (.iconst 0, 1) := by decide +kernel
theorem dX5_come_126 : decode cX5_come 126 = .ok (.iload_n 1, 1) := by decide +kernel
theorem dX5_come_127 : decode cX5_come 127 = .ok (.invokevirtual 47, 3) := by decide +kernel
theorem dX5_come_130 : decode cX5_come 130 = .ok (.aload_n 0, 1) := by decide +kernel
theorem dX5_come_131 : decode cX5_come 131 = .ok (.iload 6, 2) := by decide +kernel
theorem dX5_come_133 : decode cX5_come 133 = .ok (.iconst 1, 1) := by decide +kernel
theorem dX5_come_134 : decode cX5_come 134 = .ok (.iload_n 2, 1) := by decide +kernel
theorem dX5_come_135 : decode cX5_come 135 = .ok (.invokevirtual 47, 3) := by decide +kernel
theorem dX5_come_138 : decode cX5_come 138 = .ok (.aload_n 0, 1) := by decide +kernel
theorem dX5_come_139 : decode cX5_come 139 = .ok (.iload 6, 2) := by decide +kernel
theorem dX5_come_141 : decode cX5_come 141 = .ok (.iconst 2, 1) := by decide +kernel
theorem dX5_come_142 : decode cX5_come 142 = .ok (.iload_n 3, 1) := by decide +kernel
theorem dX5_come_143 : decode cX5_come 143 = .ok (.invokevirtual 47, 3) := by decide +kernel
theorem dX5_come_146 : decode cX5_come 146 = .ok (.aload_n 0, 1) := by decide +kernel
theorem dX5_come_147 : decode cX5_come 147 = .ok (.iload 6, 2) := by decide +kernel
theorem dX5_come_149 : decode cX5_come 149 = .ok (.iconst 3, 1) := by decide +kernel
theorem dX5_come_150 : decode cX5_come 150 = .ok (.iload_n 3, 1) := by decide +kernel
theorem dX5_come_151 : decode cX5_come 151 = .ok (.invokevirtual 47, 3) := by decide +kernel
theorem dX5_come_154 : decode cX5_come 154 = .ok (.aload_n 0, 1) := by decide +kernel
theorem dX5_come_155 : decode cX5_come 155 = .ok (.iload 6, 2) := by decide +kernel
theorem dX5_come_157 : decode cX5_come 157 = .ok (.iconst 4, 1) := by decide +kernel
theorem dX5_come_158 : decode cX5_come 158 = .ok (.iload 4, 2) := by decide +kernel
theorem dX5_come_160 : decode cX5_come 160 = .ok (.invokevirtual 47, 3) := by decide +kernel
theorem dX5_come_163 : decode cX5_come 163 = .ok (.aload_n 0, 1) := by decide +kernel
theorem dX5_come_164 : decode cX5_come 164 = .ok (.iload 6, 2) := by decide +kernel
theorem dX5_come_166 : decode cX5_come 166 = .ok (.iconst 5, 1) := by decide +kernel
theorem dX5_come_167 : decode cX5_come 167 = .ok (.iload_n 1, 1) := by decide +kernel
theorem dX5_come_168 : decode cX5_come 168 = .ok (.ifCond .ne 7, 3) := by decide +kernel
theorem dX5_come_171 : decode cX5_come 171 = .ok (.iconst 0, 1) := by decide +kernel
theorem dX5_come_172 : decode cX5_come 172 = .ok (.goto 5, 3) := by decide +kernel
theorem dX5_come_175 : decode cX5_come 175 = .ok (.bipush 9, 2) := by decide +kernel
theorem dX5_come_177 : decode cX5_come 177 = .ok (.invokevirtual 47, 3) := by decide +kernel
theorem dX5_come_180 : decode cX5_come 180 = .ok (.aload_n 0, 1) := by decide +kernel
theorem dX5_come_181 : decode cX5_come 181 = .ok (.iload 6, 2) := by decide +kernel
theorem dX5_come_183 : decode cX5_come 183 = .ok (.invokevirtual 59, 3) := by decide +kernel
theorem dX5_come_186 : decode cX5_come 186 = .ok (.iconst 0, 1) := by decide +kernel
theorem dX5_come_187 : decode cX5_come 187 = .ok (.istore 7, 2) := by decide +kernel
theorem dX5_come_189 : decode cX5_come 189 = .ok (.iload 7, 2) := by decide +kernel
theorem dX5_come_191 : decode cX5_come 191 = .ok (.iload 6, 2) := by decide +kernel
theorem dX5_come_193 : decode cX5_come 193 = .ok (.if_icmp .ge 28, 3) := by decide +kernel
theorem dX5_come_196 : decode cX5_come 196 = .ok (.aload_n 0, 1) := by decide +kernel
theorem dX5_come_197 : decode cX5_come 197 = .ok (.aload_n 0, 1) := by decide +kernel
theorem dX5_come_198 : decode cX5_come 198 = .ok (.getfield 7, 3) := by decide +kernel
theorem dX5_come_201 : decode cX5_come 201 = .ok (.bipush 6, 2) := by decide +kernel
theorem dX5_come_203 : decode cX5_come 203 = .ok (.iload 7, 2) := by decide +kernel
theorem dX5_come_205 : decode cX5_come 205 = .ok (.iadd, 1) := by decide +kernel
theorem dX5_come_206 : decode cX5_come 206 = .ok (.iaload, 1) := by decide +kernel
theorem dX5_come_207 : decode cX5_come 207 = .ok (.iconst 1, 1) := by decide +kernel
theorem dX5_come_208 : decode cX5_come 208 = .ok (.invokevirtual 32, 3) := by decide +kernel
theorem dX5_come_211 : decode cX5_come 211 = .ok (.iload_n 2, 1) := by decide +kernel
theorem dX5_come_212 : decode cX5_come 212 = .ok (.if_icmp .lt 9, 3) := by decide +kernel
theorem dX5_come_215 : decode cX5_come 215 = .ok (.iinc 7 1, 3) := by decide +kernel
theorem dX5_come_218 : decode cX5_come 218 = .ok (.goto (-29), 3) := by decide +kernel
theorem dX5_come_221 : decode cX5_come 221 = .ok (.iload 6, 2) := by decide +kernel
theorem dX5_come_223 : decode cX5_come 223 = .ok (.istore 8, 2) := by decide +kernel
theorem dX5_come_225 : decode cX5_come 225 = .ok (.iload 8, 2) := by decide +kernel
theorem dX5_come_227 : decode cX5_come 227 = .ok (.iload 7, 2) := by decide +kernel
theorem dX5_come_229 : decode cX5_come 229 = .ok (.if_icmp .le 31, 3) := by decide +kernel
theorem dX5_come_232 : decode cX5_come 232 = .ok (.aload_n 0, 1) := by decide +kernel
theorem dX5_come_233 : decode cX5_come 233 = .ok (.getfield 7, 3) := by decide +kernel
theorem dX5_come_236 : decode cX5_come 236 = .ok (.bipush 6, 2) := by decide +kernel
theorem dX5_come_238 : decode cX5_come 238 = .ok (.iload 8, 2) := by decide +kernel
theorem dX5_come_240 : decode cX5_come 240 = .ok (.iadd, 1) := by decide +kernel
theorem dX5_come_241 : decode cX5_come 241 = .ok (.aload_n 0, 1) := by decide +kernel
theorem dX5_come_242 : decode cX5_come 242 = .ok (.getfield 7, 3) := by decide +kernel
theorem dX5_come_245 : decode cX5_come 245 = .ok (.bipush 6, 2) := by decide +kernel
theorem dX5_come_247 : decode cX5_come 247 = .ok (.iload 8, 2) := by decide +kernel
theorem dX5_come_249 : decode cX5_come 249 = .ok (.iadd, 1) := by decide +kernel
theorem dX5_come_250 : decode cX5_come 250 = .ok (.iconst 1, 1) := by decide +kernel
theorem dX5_come_251 : decode cX5_come 251 = .ok (.isub, 1) := by decide +kernel
theorem dX5_come_252 : decode cX5_come 252 = .ok (.iaload, 1) := by decide +kernel
theorem dX5_come_253 : decode cX5_come 253 = .ok (.iastore, 1) := by decide +kernel
theorem dX5_come_254 : decode cX5_come 254 = .ok (.iinc 8 (-1), 3) := by decide +kernel
theorem dX5_come_257 : decode cX5_come 257 = .ok (.goto (-32), 3) := by decide +kernel
theorem dX5_come_260 : decode cX5_come 260 = .ok (.aload_n 0, 1) := by decide +kernel
theorem dX5_come_261 : decode cX5_come 261 = .ok (.getfield 7, 3) := by decide +kernel
theorem dX5_come_264 : decode cX5_come 264 = .ok (.bipush 6, 2) := by decide +kernel
theorem dX5_come_266 : decode cX5_come 266 = .ok (.iload 7, 2) := by decide +kernel
theorem dX5_come_268 : decode cX5_come 268 = .ok (.iadd, 1) := by decide +kernel
theorem dX5_come_269 : decode cX5_come 269 = .ok (.iload 6, 2) := by decide +kernel
theorem dX5_come_271 : decode cX5_come 271 = .ok (.iastore, 1) := by decide +kernel
theorem dX5_come_272 : decode cX5_come 272 = .ok (.aload_n 0, 1) := by decide +kernel
theorem dX5_come_273 : decode cX5_come 273 = .ok (.getfield 7, 3) := by decide +kernel
theorem dX5_come_276 : decode cX5_come 276 = .ok (.iconst 0, 1) := by decide +kernel
theorem dX5_come_277 : decode cX5_come 277 = .ok (.dup2, 1) := by decide +kernel
theorem dX5_come_278 : decode cX5_come 278 = .ok (.iaload, 1) := by decide +kernel
theorem dX5_come_279 : decode cX5_come 279 = .ok (.iconst 1, 1) := by decide +kernel
theorem dX5_come_280 : decode cX5_come 280 = .ok (.iadd, 1) := by decide +kernel
theorem dX5_come_281 : decode cX5_come 281 = .ok (.iastore, 1) := by decide +kernel
theorem dX5_come_282 : decode cX5_come 282 = .ok (.iload 6, 2) := by decide +kernel
theorem dX5_come_284 : decode cX5_come 284 = .ok (.ireturn, 1) := by decide +kernel
theorem dX5_reach_0 : decode cX5_reach 0 = .ok (.aload_n 0, 1) := by decide +kernel
theorem dX5_reach_1 : decode cX5_reach 1 = .ok (.iload_n 1, 1) := by decide +kernel
theorem dX5_reach_2 : decode cX5_reach 2 = .ok (.iconst 1, 1) := by decide +kernel
theorem dX5_reach_3 : decode cX5_reach 3 = .ok (.invokevirtual 55, 3) := by decide +kernel
theorem dX5_reach_6 : decode cX5_reach 6 = .ok (.ifCond .eq 7, 3) := by decide +kernel
theorem dX5_reach_9 : decode cX5_reach 9 = .ok (.iconst 1, 1) := by decide +kernel
theorem dX5_reach_10 : decode cX5_reach 10 = .ok (.goto 4, 3) := by decide +kernel
theorem dX5_reach_13 : decode cX5_reach 13 = .ok (.iconst 3, 1) := by decide +kernel
theorem dX5_reach_14 : decode cX5_reach 14 = .ok (.ireturn, 1) := by decide +kernel
theorem dX5_isNear_0 : decode cX5_isNear 0 = .ok (.aload_n 0, 1) := by decide +kernel
theorem dX5_isNear_1 : decode cX5_isNear 1 = .ok (.iload_n 1, 1) := by decide +kernel
theorem dX5_isNear_2 : decode cX5_isNear 2 = .ok (.iconst 5, 1) := by decide +kernel
theorem dX5_isNear_3 : decode cX5_isNear 3 = .ok (.invokevirtual 32, 3) := by decide +kernel
theorem dX5_isNear_6 : decode cX5_isNear 6 = .ok (.aload_n 0, 1) := by decide +kernel
theorem dX5_isNear_7 : decode cX5_isNear 7 = .ok (.iload_n 2, 1) := by decide +kernel
theorem dX5_isNear_8 : decode cX5_isNear 8 = .ok (.iconst 5, 1) := by decide +kernel
theorem dX5_isNear_9 : decode cX5_isNear 9 = .ok (.invokevirtual 32, 3) := by decide +kernel
theorem dX5_isNear_12 : decode cX5_isNear 12 = .ok (.invokestatic 89, 3) := by decide +kernel
theorem dX5_isNear_15 : decode cX5_isNear 15 = .ok (.iconst 2, 1) := by decide +kernel
theorem dX5_isNear_16 : decode cX5_isNear 16 = .ok (.if_icmp .gt 7, 3) := by decide +kernel
theorem dX5_isNear_19 : decode cX5_isNear 19 = .ok (.iconst 1, 1) := by decide +kernel
theorem dX5_isNear_20 : decode cX5_isNear 20 = .ok (.goto 4, 3) := by decide +kernel
theorem dX5_isNear_23 : decode cX5_isNear 23 = .ok (.iconst 0, 1) := by decide +kernel
theorem dX5_isNear_24 : decode cX5_isNear 24 = .ok (.ireturn, 1) := by decide +kernel
theorem dX5_isPossible_0 : decode cX5_isPossible 0 = .ok (.iload_n 2, 1) := by decide +kernel
theorem dX5_isPossible_1 : decode cX5_isPossible 1 = .ok (.iconst 1, 1) := by decide +kernel
theorem dX5_isPossible_2 : decode cX5_isPossible 2 = .ok (.if_icmp .ne 27, 3) := by decide +kernel
theorem dX5_isPossible_5 : decode cX5_isPossible 5 = .ok (.aload_n 0, 1) := by decide +kernel
theorem dX5_isPossible_6 : decode cX5_isPossible 6 = .ok (.iload_n 1, 1) := by decide +kernel
theorem dX5_isPossible_7 : decode cX5_isPossible 7 = .ok (.iconst 5, 1) := by decide +kernel
theorem dX5_isPossible_8 : decode cX5_isPossible 8 = .ok (.invokevirtual 32, 3) := by decide +kernel
theorem dX5_isPossible_11 : decode cX5_isPossible 11 = .ok (.iload_n 3, 1) := by decide +kernel
theorem dX5_isPossible_12 : decode cX5_isPossible 12 = .ok (.invokestatic 89, 3) := by decide +kernel
theorem dX5_isPossible_15 : decode cX5_isPossible 15 = .ok (.aload_n 0, 1) := by decide +kernel
theorem dX5_isPossible_16 : decode cX5_isPossible 16 = .ok (.iload_n 1, 1) := by decide +kernel
theorem dX5_isPossible_17 : decode cX5_isPossible 17 = .ok (.invokevirtual 92, 3) := by decide +kernel
theorem dX5_isPossible_20 : decode cX5_isPossible 20 = .ok (.if_icmp .gt 7, 3) := by decide +kernel
theorem dX5_isPossible_23 : decode cX5_isPossible 23 = .ok (.iconst 1, 1) := by decide +kernel
theorem dX5_isPossible_24 : decode cX5_isPossible 24 = .ok (.goto 4, 3) := by decide +kernel
theorem dX5_isPossible_27 : decode cX5_isPossible 27 = .ok (.iconst 0, 1) := by decide +kernel
theorem dX5_isPossible_28 : decode cX5_isPossible 28 = .ok (.ireturn, 1) := by decide +kernel
theorem dX5_isPossible_29 : decode cX5_isPossible 29 = .ok (.iload_n 3, 1) := by decide +kernel
theorem dX5_isPossible_30 : decode cX5_isPossible 30 = .ok (.iload_n 1, 1) := by decide +kernel
theorem dX5_isPossible_31 : decode cX5_isPossible 31 = .ok (.if_icmp .eq 11, 3) := by decide +kernel
theorem dX5_isPossible_34 : decode cX5_isPossible 34 = .ok (.aload_n 0, 1) := by decide +kernel
theorem dX5_isPossible_35 : decode cX5_isPossible 35 = .ok (.iload_n 3, 1) := by decide +kernel
theorem dX5_isPossible_36 : decode cX5_isPossible 36 = .ok (.invokevirtual 51, 3) := by decide +kernel
theorem dX5_isPossible_39 : decode cX5_isPossible 39 = .ok (.ifCond .eq 5, 3) := by decide +kernel
theorem dX5_isPossible_42 : decode cX5_isPossible 42 = .ok (.iconst 0, 1) := by decide +kernel
theorem dX5_isPossible_43 : decode cX5_isPossible 43 = .ok (.ireturn, 1) := by decide +kernel
theorem dX5_isPossible_44 : decode cX5_isPossible 44 = .ok (.aload_n 0, 1) := by decide +kernel
theorem dX5_isPossible_45 : decode cX5_isPossible 45 = .ok (.iload_n 1, 1) := by decide +kernel
theorem dX5_isPossible_46 : decode cX5_isPossible 46 = .ok (.iconst 0, 1) := by decide +kernel
theorem dX5_isPossible_47 : decode cX5_isPossible 47 = .ok (.invokevirtual 32, 3) := by decide +kernel
theorem dX5_isPossible_50 : decode cX5_isPossible 50 = .ok (.aload_n 0, 1) := by decide +kernel
theorem dX5_isPossible_51 : decode cX5_isPossible 51 = .ok (.iload_n 3, 1) := by decide +kernel
theorem dX5_isPossible_52 : decode cX5_isPossible 52 = .ok (.iconst 0, 1) := by decide +kernel
theorem dX5_isPossible_53 : decode cX5_isPossible 53 = .ok (.invokevirtual 32, 3) := by decide +kernel
theorem dX5_isPossible_56 : decode cX5_isPossible 56 = .ok (.if_icmp .ne 7, 3) := by decide +kernel
theorem dX5_isPossible_59 : decode cX5_isPossible 59 = .ok (.iconst 1, 1) := by decide +kernel
theorem dX5_isPossible_60 : decode cX5_isPossible 60 = .ok (.goto 4, 3) := by decide +kernel
theorem dX5_isPossible_63 : decode cX5_isPossible 63 = .ok (.iconst 0, 1) := by decide +kernel
theorem dX5_isPossible_64 : decode cX5_isPossible 64 = .ok (.istore 4, 2) := by decide +kernel
theorem dX5_isPossible_66 : decode cX5_isPossible 66 = .ok (.iload_n 2, 1) := by decide +kernel
theorem dX5_isPossible_67 : decode cX5_isPossible 67 = .ok (.ifCond .ne 12, 3) := by decide +kernel
theorem dX5_isPossible_70 : decode cX5_isPossible 70 = .ok (.aload_n 0, 1) := by decide +kernel
theorem dX5_isPossible_71 : decode cX5_isPossible 71 = .ok (.iload_n 1, 1) := by decide +kernel
theorem dX5_isPossible_72 : decode cX5_isPossible 72 = .ok (.iload_n 3, 1) := by decide +kernel
theorem dX5_isPossible_73 : decode cX5_isPossible 73 = .ok (.invokevirtual 95, 3) := by decide +kernel
theorem dX5_isPossible_76 : decode cX5_isPossible 76 = .ok (.goto 40, 3) := by decide +kernel
theorem dX5_isPossible_79 : decode cX5_isPossible 79 = .ok (.iload_n 2, 1) := by decide +kernel
theorem dX5_isPossible_80 : decode cX5_isPossible 80 = .ok (.iconst 2, 1) := by decide +kernel
theorem dX5_isPossible_81 : decode cX5_isPossible 81 = .ok (.if_icmp .ne 25, 3) := by decide +kernel
theorem dX5_isPossible_84 : decode cX5_isPossible 84 = .ok (.iload 4, 2) := by decide +kernel
theorem dX5_isPossible_86 : decode cX5_isPossible 86 = .ok (.ifCond .eq 16, 3) := by decide +kernel
theorem dX5_isPossible_89 : decode cX5_isPossible 89 = .ok (.aload_n 0, 1) := by decide +kernel
theorem dX5_isPossible_90 : decode cX5_isPossible 90 = .ok (.iload_n 1, 1) := by decide +kernel
theorem dX5_isPossible_91 : decode cX5_isPossible 91 = .ok (.iload_n 3, 1) := by decide +kernel
theorem dX5_isPossible_92 : decode cX5_isPossible 92 = .ok (.invokevirtual 95, 3) := by decide +kernel
theorem dX5_isPossible_95 : decode cX5_isPossible 95 = .ok (.ifCond .eq 7, 3) := by decide +kernel
theorem dX5_isPossible_98 : decode cX5_isPossible 98 = .ok (.iconst 1, 1) := by decide +kernel
theorem dX5_isPossible_99 : decode cX5_isPossible 99 = .ok (.goto 17, 3) := by decide +kernel
theorem dX5_isPossible_102 : decode cX5_isPossible 102 = .ok (.iconst 0, 1) := by decide +kernel
theorem dX5_isPossible_103 : decode cX5_isPossible 103 = .ok (.goto 13, 3) := by decide +kernel
theorem dX5_isPossible_106 : decode cX5_isPossible 106 = .ok (.iload 4, 2) := by decide +kernel
theorem dX5_isPossible_108 : decode cX5_isPossible 108 = .ok (.ifCond .ne 7, 3) := by decide +kernel
theorem dX5_isPossible_111 : decode cX5_isPossible 111 = .ok (.iconst 1, 1) := by decide +kernel
theorem dX5_isPossible_112 : decode cX5_isPossible 112 = .ok (.goto 4, 3) := by decide +kernel
theorem dX5_isPossible_115 : decode cX5_isPossible 115 = .ok (.iconst 0, 1) := by decide +kernel
theorem dX5_isPossible_116 : decode cX5_isPossible 116 = .ok (.ireturn, 1) := by decide +kernel
theorem dX5_strikeIt_0 : decode cX5_strikeIt 0 = .ok (.aload_n 0, 1) := by decide +kernel
theorem dX5_strikeIt_1 : decode cX5_strikeIt 1 = .ok (.iload_n 1, 1) := by decide +kernel
theorem dX5_strikeIt_2 : decode cX5_strikeIt 2 = .ok (.iconst 4, 1) := by decide +kernel
theorem dX5_strikeIt_3 : decode cX5_strikeIt 3 = .ok (.invokevirtual 32, 3) := by decide +kernel
theorem dX5_strikeIt_6 : decode cX5_strikeIt 6 = .ok (.aload_n 0, 1) := by decide +kernel
theorem dX5_strikeIt_7 : decode cX5_strikeIt 7 = .ok (.iload_n 1, 1) := by decide +kernel
theorem dX5_strikeIt_8 : decode cX5_strikeIt 8 = .ok (.iconst 2, 1) := by decide +kernel
theorem dX5_strikeIt_9 : decode cX5_strikeIt 9 = .ok (.invokevirtual 55, 3) := by decide +kernel
theorem dX5_strikeIt_12 : decode cX5_strikeIt 12 = .ok (.ifCond .eq 7, 3) := by decide +kernel
theorem dX5_strikeIt_15 : decode cX5_strikeIt 15 = .ok (.iconst 3, 1) := by decide +kernel
theorem dX5_strikeIt_16 : decode cX5_strikeIt 16 = .ok (.goto 4, 3) := by decide +kernel
theorem dX5_strikeIt_19 : decode cX5_strikeIt 19 = .ok (.iconst 0, 1) := by decide +kernel
theorem dX5_strikeIt_20 : decode cX5_strikeIt 20 = .ok (.iadd, 1) := by decide +kernel
theorem dX5_strikeIt_21 : decode cX5_strikeIt 21 = .ok (.istore_n 3, 1) := by decide +kernel
theorem dX5_strikeIt_22 : decode cX5_strikeIt 22 = .ok (.aload_n 0, 1) := by decide +kernel
theorem dX5_strikeIt_23 : decode cX5_strikeIt 23 = .ok (.iload_n 1, 1) := by decide +kernel
theorem dX5_strikeIt_24 : decode cX5_strikeIt 24 = .ok (.iconst 1, 1) := by decide +kernel
theorem dX5_strikeIt_25 : decode cX5_strikeIt 25 = .ok (.invokevirtual 55, 3) := by decide +kernel
theorem dX5_strikeIt_28 : decode cX5_strikeIt 28 = .ok (.ifCond .eq 9, 3) := by decide +kernel
theorem dX5_strikeIt_31 : decode cX5_strikeIt 31 = .ok (.iload_n 3, 1) := by decide +kernel
theorem dX5_strikeIt_32 : decode cX5_strikeIt 32 = .ok (.iconst 2, 1) := by decide +kernel
theorem dX5_strikeIt_33 : decode cX5_strikeIt 33 = .ok (.idiv, 1) := by decide +kernel
theorem dX5_strikeIt_34 : decode cX5_strikeIt 34 = .ok (.goto 4, 3) := by decide +kernel
theorem dX5_strikeIt_37 : decode cX5_strikeIt 37 = .ok (.iload_n 3, 1) := by decide +kernel
theorem dX5_strikeIt_38 : decode cX5_strikeIt 38 = .ok (.istore_n 3, 1) := by decide +kernel
theorem dX5_strikeIt_39 : decode cX5_strikeIt 39 = .ok (.iload_n 3, 1) := by decide +kernel
theorem dX5_strikeIt_40 : decode cX5_strikeIt 40 = .ok (.aload_n 0, 1) := by decide +kernel
theorem dX5_strikeIt_41 : decode cX5_strikeIt 41 = .ok (.iload_n 2, 1) := by decide +kernel
theorem dX5_strikeIt_42 : decode cX5_strikeIt 42 = .ok (.iconst 2, 1) := by decide +kernel
theorem dX5_strikeIt_43 : decode cX5_strikeIt 43 = .ok (.invokevirtual 32, 3) := by decide +kernel
theorem dX5_strikeIt_46 : decode cX5_strikeIt 46 = .ok (.if_icmp .ge 7, 3) := by decide +kernel
theorem dX5_strikeIt_49 : decode cX5_strikeIt 49 = .ok (.iload_n 3, 1) := by decide +kernel
theorem dX5_strikeIt_50 : decode cX5_strikeIt 50 = .ok (.goto 9, 3) := by decide +kernel
theorem dX5_strikeIt_53 : decode cX5_strikeIt 53 = .ok (.aload_n 0, 1) := by decide +kernel
theorem dX5_strikeIt_54 : decode cX5_strikeIt 54 = .ok (.iload_n 2, 1) := by decide +kernel
theorem dX5_strikeIt_55 : decode cX5_strikeIt 55 = .ok (.iconst 2, 1) := by decide +kernel
theorem dX5_strikeIt_56 : decode cX5_strikeIt 56 = .ok (.invokevirtual 32, 3) := by decide +kernel
theorem dX5_strikeIt_59 : decode cX5_strikeIt 59 = .ok (.istore 4, 2) := by decide +kernel
theorem dX5_strikeIt_61 : decode cX5_strikeIt 61 = .ok (.aload_n 0, 1) := by decide +kernel
theorem dX5_strikeIt_62 : decode cX5_strikeIt 62 = .ok (.iload_n 2, 1) := by decide +kernel
theorem dX5_strikeIt_63 : decode cX5_strikeIt 63 = .ok (.iconst 2, 1) := by decide +kernel
theorem dX5_strikeIt_64 : decode cX5_strikeIt 64 = .ok (.aload_n 0, 1) := by decide +kernel
theorem dX5_strikeIt_65 : decode cX5_strikeIt 65 = .ok (.iload_n 2, 1) := by decide +kernel
theorem dX5_strikeIt_66 : decode cX5_strikeIt 66 = .ok (.iconst 2, 1) := by decide +kernel
theorem dX5_strikeIt_67 : decode cX5_strikeIt 67 = .ok (.invokevirtual 32, 3) := by decide +kernel
theorem dX5_strikeIt_70 : decode cX5_strikeIt 70 = .ok (.iload 4, 2) := by decide +kernel
theorem dX5_strikeIt_72 : decode cX5_strikeIt 72 = .ok (.isub, 1) := by decide +kernel
theorem dX5_strikeIt_73 : decode cX5_strikeIt 73 = .ok (.invokevirtual 47, 3) := by decide +kernel
theorem dX5_strikeIt_76 : decode cX5_strikeIt 76 = .ok (.aload_n 0, 1) := by decide +kernel
theorem dX5_strikeIt_77 : decode cX5_strikeIt 77 = .ok (.iload_n 1, 1) := by decide +kernel
theorem dX5_strikeIt_78 : decode cX5_strikeIt 78 = .ok (.bipush 16, 2) := by decide +kernel
theorem dX5_strikeIt_80 : decode cX5_strikeIt 80 = .ok (.aload_n 0, 1) := by decide +kernel
theorem dX5_strikeIt_81 : decode cX5_strikeIt 81 = .ok (.iload_n 1, 1) := by decide +kernel
theorem dX5_strikeIt_82 : decode cX5_strikeIt 82 = .ok (.bipush 16, 2) := by decide +kernel
theorem dX5_strikeIt_84 : decode cX5_strikeIt 84 = .ok (.invokevirtual 32, 3) := by decide +kernel
theorem dX5_strikeIt_87 : decode cX5_strikeIt 87 = .ok (.iload 4, 2) := by decide +kernel
theorem dX5_strikeIt_89 : decode cX5_strikeIt 89 = .ok (.iadd, 1) := by decide +kernel
theorem dX5_strikeIt_90 : decode cX5_strikeIt 90 = .ok (.invokevirtual 47, 3) := by decide +kernel
theorem dX5_strikeIt_93 : decode cX5_strikeIt 93 = .ok (.iload 4, 2) := by decide +kernel
theorem dX5_strikeIt_95 : decode cX5_strikeIt 95 = .ok (.ireturn, 1) := by decide +kernel
theorem dX5_helpIt_0 : decode cX5_helpIt 0 = .ok (.aload_n 0, 1) := by decide +kernel
theorem dX5_helpIt_1 : decode cX5_helpIt 1 = .ok (.iload_n 1, 1) := by decide +kernel
theorem dX5_helpIt_2 : decode cX5_helpIt 2 = .ok (.iconst 2, 1) := by decide +kernel
theorem dX5_helpIt_3 : decode cX5_helpIt 3 = .ok (.invokevirtual 32, 3) := by decide +kernel
theorem dX5_helpIt_6 : decode cX5_helpIt 6 = .ok (.iconst 4, 1) := by decide +kernel
theorem dX5_helpIt_7 : decode cX5_helpIt 7 = .ok (.iadd, 1) := by decide +kernel
theorem dX5_helpIt_8 : decode cX5_helpIt 8 = .ok (.istore_n 2, 1) := by decide +kernel
theorem dX5_helpIt_9 : decode cX5_helpIt 9 = .ok (.aload_n 0, 1) := by decide +kernel
theorem dX5_helpIt_10 : decode cX5_helpIt 10 = .ok (.iload_n 1, 1) := by decide +kernel
theorem dX5_helpIt_11 : decode cX5_helpIt 11 = .ok (.iconst 2, 1) := by decide +kernel
theorem dX5_helpIt_12 : decode cX5_helpIt 12 = .ok (.iload_n 2, 1) := by decide +kernel
theorem dX5_helpIt_13 : decode cX5_helpIt 13 = .ok (.aload_n 0, 1) := by decide +kernel
theorem dX5_helpIt_14 : decode cX5_helpIt 14 = .ok (.iload_n 1, 1) := by decide +kernel
theorem dX5_helpIt_15 : decode cX5_helpIt 15 = .ok (.iconst 3, 1) := by decide +kernel
theorem dX5_helpIt_16 : decode cX5_helpIt 16 = .ok (.invokevirtual 32, 3) := by decide +kernel
theorem dX5_helpIt_19 : decode cX5_helpIt 19 = .ok (.if_icmp .ge 7, 3) := by decide +kernel
theorem dX5_helpIt_22 : decode cX5_helpIt 22 = .ok (.iload_n 2, 1) := by decide +kernel
theorem dX5_helpIt_23 : decode cX5_helpIt 23 = .ok (.goto 9, 3) := by decide +kernel
theorem dX5_helpIt_26 : decode cX5_helpIt 26 = .ok (.aload_n 0, 1) := by decide +kernel
theorem dX5_helpIt_27 : decode cX5_helpIt 27 = .ok (.iload_n 1, 1) := by decide +kernel
theorem dX5_helpIt_28 : decode cX5_helpIt 28 = .ok (.iconst 3, 1) := by decide +kernel
theorem dX5_helpIt_29 : decode cX5_helpIt 29 = .ok (.invokevirtual 32, 3) := by decide +kernel
theorem dX5_helpIt_32 : decode cX5_helpIt 32 = .ok (.invokevirtual 47, 3) := by decide +kernel
theorem dX5_helpIt_35 : decode cX5_helpIt 35 = .ok (.aload_n 0, 1) := by decide +kernel
theorem dX5_helpIt_36 : decode cX5_helpIt 36 = .ok (.iload_n 1, 1) := by decide +kernel
theorem dX5_helpIt_37 : decode cX5_helpIt 37 = .ok (.bipush 14, 2) := by decide +kernel
theorem dX5_helpIt_39 : decode cX5_helpIt 39 = .ok (.iconst 0, 1) := by decide +kernel
theorem dX5_helpIt_40 : decode cX5_helpIt 40 = .ok (.invokevirtual 47, 3) := by decide +kernel
theorem dX5_helpIt_43 : decode cX5_helpIt 43 = .ok (.aload_n 0, 1) := by decide +kernel
theorem dX5_helpIt_44 : decode cX5_helpIt 44 = .ok (.iload_n 1, 1) := by decide +kernel
theorem dX5_helpIt_45 : decode cX5_helpIt 45 = .ok (.iconst 2, 1) := by decide +kernel
theorem dX5_helpIt_46 : decode cX5_helpIt 46 = .ok (.invokevirtual 32, 3) := by decide +kernel
theorem dX5_helpIt_49 : decode cX5_helpIt 49 = .ok (.ireturn, 1) := by decide +kernel
theorem dX5_doIt_0 : decode cX5_doIt 0 = .ok (.aload_n 0, 1) := by decide +kernel
theorem dX5_doIt_1 : decode cX5_doIt 1 = .ok (.getfield 7, 3) := by decide +kernel
theorem dX5_doIt_4 : decode cX5_doIt 4 = .ok (.iconst 3, 1) := by decide +kernel
theorem dX5_doIt_5 : decode cX5_doIt 5 = .ok (.dup2, 1) := by decide +kernel
theorem dX5_doIt_6 : decode cX5_doIt 6 = .ok (.iaload, 1) := by decide +kernel
theorem dX5_doIt_7 : decode cX5_doIt 7 = .ok (.iconst 1, 1) := by decide +kernel
theorem dX5_doIt_8 : decode cX5_doIt 8 = .ok (.iadd, 1) := by decide +kernel
theorem dX5_doIt_9 : decode cX5_doIt 9 = .ok (.iastore, 1) := by decide +kernel
theorem dX5_doIt_10 : decode cX5_doIt 10 = .ok (.aload_n 0, 1) := by decide +kernel
theorem dX5_doIt_11 : decode cX5_doIt 11 = .ok (.iload_n 1, 1) := by decide +kernel
theorem dX5_doIt_12 : decode cX5_doIt 12 = .ok (.bipush 15, 2) := by decide +kernel
theorem dX5_doIt_14 : decode cX5_doIt 14 = .ok (.aload_n 0, 1) := by decide +kernel
theorem dX5_doIt_15 : decode cX5_doIt 15 = .ok (.iload_n 1, 1) := by decide +kernel
theorem dX5_doIt_16 : decode cX5_doIt 16 = .ok (.bipush 15, 2) := by decide +kernel
theorem dX5_doIt_18 : decode cX5_doIt 18 = .ok (.invokevirtual 32, 3) := by decide +kernel
theorem dX5_doIt_21 : decode cX5_doIt 21 = .ok (.iconst 1, 1) := by decide +kernel
theorem dX5_doIt_22 : decode cX5_doIt 22 = .ok (.iadd, 1) := by decide +kernel
theorem dX5_doIt_23 : decode cX5_doIt 23 = .ok (.invokevirtual 47, 3) := by decide +kernel
theorem dX5_doIt_26 : decode cX5_doIt 26 = .ok (.iload_n 2, 1) := by decide +kernel
theorem dX5_doIt_27 : decode cX5_doIt 27 = .ok (.ifCond .ne 10, 3) := by decide +kernel
theorem dX5_doIt_30 : decode cX5_doIt 30 = .ok (.aload_n 0, 1) := by decide +kernel
theorem dX5_doIt_31 : decode cX5_doIt 31 = .ok (.iload_n 1, 1) := by decide +kernel
theorem dX5_doIt_32 : decode cX5_doIt 32 = .ok (.iload_n 3, 1) := by decide +kernel
theorem dX5_doIt_33 : decode cX5_doIt 33 = .ok (.invokevirtual 98, 3) := by decide +kernel
theorem dX5_doIt_36 : decode cX5_doIt 36 = .ok (.ireturn, 1) := by decide +kernel
theorem dX5_doIt_37 : decode cX5_doIt 37 = .ok (.iload_n 2, 1) := by decide +kernel
theorem dX5_doIt_38 : decode cX5_doIt 38 = .ok (.iconst 2, 1) := by decide +kernel
theorem dX5_doIt_39 : decode cX5_doIt 39 = .ok (.if_icmp .ne 9, 3) := by decide +kernel
theorem dX5_doIt_42 : decode cX5_doIt 42 = .ok (.aload_n 0, 1) := by decide +kernel
theorem dX5_doIt_43 : decode cX5_doIt 43 = .ok (.iload_n 3, 1) := by decide +kernel
theorem dX5_doIt_44 : decode cX5_doIt 44 = .ok (.invokevirtual 101, 3) := by decide +kernel
theorem dX5_doIt_47 : decode cX5_doIt 47 = .ok (.ireturn, 1) := by decide +kernel
theorem dX5_doIt_48 : decode cX5_doIt 48 = .ok (.iload_n 2, 1) := by decide +kernel
theorem dX5_doIt_49 : decode cX5_doIt 49 = .ok (.iconst 1, 1) := by decide +kernel
theorem dX5_doIt_50 : decode cX5_doIt 50 = .ok (.if_icmp .ne 25, 3) := by decide +kernel
theorem dX5_doIt_53 : decode cX5_doIt 53 = .ok (.aload_n 0, 1) := by decide +kernel
theorem dX5_doIt_54 : decode cX5_doIt 54 = .ok (.iload_n 1, 1) := by decide +kernel
theorem dX5_doIt_55 : decode cX5_doIt 55 = .ok (.iconst 5, 1) := by decide +kernel
theorem dX5_doIt_56 : decode cX5_doIt 56 = .ok (.invokevirtual 32, 3) := by decide +kernel
theorem dX5_doIt_59 : decode cX5_doIt 59 = .ok (.iload_n 3, 1) := by decide +kernel
theorem dX5_doIt_60 : decode cX5_doIt 60 = .ok (.invokestatic 89, 3) := by decide +kernel
theorem dX5_doIt_63 : decode cX5_doIt 63 = .ok (.istore 6, 2) := by decide +kernel
theorem dX5_doIt_65 : decode cX5_doIt 65 = .ok (.aload_n 0, 1) := by decide +kernel
theorem dX5_doIt_66 : decode cX5_doIt 66 = .ok (.iload_n 1, 1) := by decide +kernel
theorem dX5_doIt_67 : decode cX5_doIt 67 = .ok (.iconst 5, 1) := by decide +kernel
theorem dX5_doIt_68 : decode cX5_doIt 68 = .ok (.iload_n 3, 1) := by decide +kernel
theorem dX5_doIt_69 : decode cX5_doIt 69 = .ok (.invokevirtual 47, 3) := by decide +kernel
theorem dX5_doIt_72 : decode cX5_doIt 72 = .ok (.iload 6, 2) := by decide +kernel
theorem dX5_doIt_74 : decode cX5_doIt 74 = .ok (.ireturn, 1) := by decide +kernel
theorem dX5_doIt_75 : decode cX5_doIt 75 = .ok (.aload_n 0, 1) := by decide +kernel
theorem dX5_doIt_76 : decode cX5_doIt 76 = .ok (.iload_n 3, 1) := by decide +kernel
theorem dX5_doIt_77 : decode cX5_doIt 77 = .ok (.bipush 11, 2) := by decide +kernel
theorem dX5_doIt_79 : decode cX5_doIt 79 = .ok (.iload 4, 2) := by decide +kernel
theorem dX5_doIt_81 : decode cX5_doIt 81 = .ok (.iadd, 1) := by decide +kernel
theorem dX5_doIt_82 : decode cX5_doIt 82 = .ok (.invokevirtual 32, 3) := by decide +kernel
theorem dX5_doIt_85 : decode cX5_doIt 85 = .ok (.istore 6, 2) := by decide +kernel
theorem dX5_doIt_87 : decode cX5_doIt 87 = .ok (.aload_n 0, 1) := by decide +kernel
theorem dX5_doIt_88 : decode cX5_doIt 88 = .ok (.iload_n 3, 1) := by decide +kernel
theorem dX5_doIt_89 : decode cX5_doIt 89 = .ok (.bipush 11, 2) := by decide +kernel
theorem dX5_doIt_91 : decode cX5_doIt 91 = .ok (.iload 4, 2) := by decide +kernel
theorem dX5_doIt_93 : decode cX5_doIt 93 = .ok (.iadd, 1) := by decide +kernel
theorem dX5_doIt_94 : decode cX5_doIt 94 = .ok (.iload 6, 2) := by decide +kernel
theorem dX5_doIt_96 : decode cX5_doIt 96 = .ok (.iload 5, 2) := by decide +kernel
theorem dX5_doIt_98 : decode cX5_doIt 98 = .ok (.if_icmp .le 8, 3) := by decide +kernel
theorem dX5_doIt_101 : decode cX5_doIt 101 = .ok (.iload 6, 2) := by decide +kernel
theorem dX5_doIt_103 : decode cX5_doIt 103 = .ok (.goto 5, 3) := by decide +kernel
theorem dX5_doIt_106 : decode cX5_doIt 106 = .ok (.iload 5, 2) := by decide +kernel
theorem dX5_doIt_108 : decode cX5_doIt 108 = .ok (.invokevirtual 47, 3) := by decide +kernel
theorem dX5_doIt_111 : decode cX5_doIt 111 = .ok (.aload_n 0, 1) := by decide +kernel
theorem dX5_doIt_112 : decode cX5_doIt 112 = .ok (.iload_n 3, 1) := by decide +kernel
theorem dX5_doIt_113 : decode cX5_doIt 113 = .ok (.bipush 11, 2) := by decide +kernel
theorem dX5_doIt_115 : decode cX5_doIt 115 = .ok (.iload 4, 2) := by decide +kernel
theorem dX5_doIt_117 : decode cX5_doIt 117 = .ok (.iadd, 1) := by decide +kernel
theorem dX5_doIt_118 : decode cX5_doIt 118 = .ok (.invokevirtual 32, 3) := by decide +kernel
theorem dX5_doIt_121 : decode cX5_doIt 121 = .ok (.ireturn, 1) := by decide +kernel
theorem dX5_isSetOff_0 : decode cX5_isSetOff 0 = .ok (.aload_n 0, 1) := by decide +kernel
theorem dX5_isSetOff_1 : decode cX5_isSetOff 1 = .ok (.iload_n 1, 1) := by decide +kernel
theorem dX5_isSetOff_2 : decode cX5_isSetOff 2 = .ok (.bipush 9, 2) := by decide +kernel
theorem dX5_isSetOff_4 : decode cX5_isSetOff 4 = .ok (.invokevirtual 32, 3) := by decide +kernel
theorem dX5_isSetOff_7 : decode cX5_isSetOff 7 = .ok (.iload_n 2, 1) := by decide +kernel
theorem dX5_isSetOff_8 : decode cX5_isSetOff 8 = .ok (.if_icmp .eq 29, 3) := by decide +kernel
theorem dX5_isSetOff_11 : decode cX5_isSetOff 11 = .ok (.aload_n 0, 1) := by decide +kernel
theorem dX5_isSetOff_12 : decode cX5_isSetOff 12 = .ok (.iload_n 1, 1) := by decide +kernel
theorem dX5_isSetOff_13 : decode cX5_isSetOff 13 = .ok (.bipush 9, 2) := by decide +kernel
theorem dX5_isSetOff_15 : decode cX5_isSetOff 15 = .ok (.invokevirtual 32, 3) := by decide +kernel
theorem dX5_isSetOff_18 : decode cX5_isSetOff 18 = .ok (.iconst (-1), 1) := by decide +kernel
theorem dX5_isSetOff_19 : decode cX5_isSetOff 19 = .ok (.if_icmp .ne 22, 3) := by decide +kernel
theorem dX5_isSetOff_22 : decode cX5_isSetOff 22 = .ok (.aload_n 0, 1) := by decide +kernel
theorem dX5_isSetOff_23 : decode cX5_isSetOff 23 = .ok (.iload_n 1, 1) := by decide +kernel
theorem dX5_isSetOff_24 : decode cX5_isSetOff 24 = .ok (.iconst 0, 1) := by decide +kernel
theorem dX5_isSetOff_25 : decode cX5_isSetOff 25 = .ok (.invokevirtual 32, 3) := by decide +kernel
theorem dX5_isSetOff_28 : decode cX5_isSetOff 28 = .ok (.aload_n 0, 1) := by decide +kernel
theorem dX5_isSetOff_29 : decode cX5_isSetOff 29 = .ok (.iload_n 2, 1) := by decide +kernel
theorem dX5_isSetOff_30 : decode cX5_isSetOff 30 = .ok (.iconst 0, 1) := by decide +kernel
theorem dX5_isSetOff_31 : decode cX5_isSetOff 31 = .ok (.invokevirtual 32, 3) := by decide +kernel
theorem dX5_isSetOff_34 : decode cX5_isSetOff 34 = .ok (.if_icmp .eq 7, 3) := by decide +kernel
theorem dX5_isSetOff_37 : decode cX5_isSetOff 37 = .ok (.iconst 1, 1) := by decide +kernel
theorem dX5_isSetOff_38 : decode cX5_isSetOff 38 = .ok (.goto 4, 3) := by decide +kernel
theorem dX5_isSetOff_41 : decode cX5_isSetOff 41 = .ok (.iconst 0, 1) := by decide +kernel
theorem dX5_isSetOff_42 : decode cX5_isSetOff 42 = .ok (.istore 4, 2) := by decide +kernel
theorem dX5_isSetOff_44 : decode cX5_isSetOff 44 = .ok (.aload_n 0, 1) := by decide +kernel
theorem dX5_isSetOff_45 : decode cX5_isSetOff 45 = .ok (.iload_n 1, 1) := by decide +kernel
theorem dX5_isSetOff_46 : decode cX5_isSetOff 46 = .ok (.bipush 7, 2) := by decide +kernel
theorem dX5_isSetOff_48 : decode cX5_isSetOff 48 = .ok (.invokevirtual 32, 3) := by decide +kernel
theorem dX5_isSetOff_51 : decode cX5_isSetOff 51 = .ok (.iconst (-1), 1) := by decide +kernel
theorem dX5_isSetOff_52 : decode cX5_isSetOff 52 = .ok (.if_icmp .eq 31, 3) := by decide +kernel
theorem dX5_isSetOff_55 : decode cX5_isSetOff 55 = .ok (.aload_n 0, 1) := by decide +kernel
theorem dX5_isSetOff_56 : decode cX5_isSetOff 56 = .ok (.iload_n 1, 1) := by decide +kernel
theorem dX5_isSetOff_57 : decode cX5_isSetOff 57 = .ok (.invokevirtual 51, 3) := by decide +kernel
theorem dX5_isSetOff_60 : decode cX5_isSetOff 60 = .ok (.ifCond .ne 23, 3) := by decide +kernel
theorem dX5_isSetOff_63 : decode cX5_isSetOff 63 = .ok (.aload_n 0, 1) := by decide +kernel
theorem dX5_isSetOff_64 : decode cX5_isSetOff 64 = .ok (.iload_n 1, 1) := by decide +kernel
theorem dX5_isSetOff_65 : decode cX5_isSetOff 65 = .ok (.bipush 10, 2) := by decide +kernel
theorem dX5_isSetOff_67 : decode cX5_isSetOff 67 = .ok (.invokevirtual 32, 3) := by decide +kernel
theorem dX5_isSetOff_70 : decode cX5_isSetOff 70 = .ok (.iload_n 3, 1) := by decide +kernel
theorem dX5_isSetOff_71 : decode cX5_isSetOff 71 = .ok (.if_icmp .ne 12, 3) := by decide +kernel
theorem dX5_isSetOff_74 : decode cX5_isSetOff 74 = .ok (.iload 4, 2) := by decide +kernel
theorem dX5_isSetOff_76 : decode cX5_isSetOff 76 = .ok (.ifCond .eq 7, 3) := by decide +kernel
theorem dX5_isSetOff_79 : decode cX5_isSetOff 79 = .ok (.iconst 1, 1) := by decide +kernel
theorem dX5_isSetOff_80 : decode cX5_isSetOff 80 = .ok (.goto 4, 3) := by decide +kernel
theorem dX5_isSetOff_83 : decode cX5_isSetOff 83 = .ok (.iconst 0, 1) := by decide +kernel
theorem dX5_isSetOff_84 : decode cX5_isSetOff 84 = .ok (.ireturn, 1) := by decide +kernel
theorem dX5_setOff_0 : decode cX5_setOff 0 = .ok (.iconst 0, 1) := by decide +kernel
theorem dX5_setOff_1 : decode cX5_setOff 1 = .ok (.istore_n 3, 1) := by decide +kernel
theorem dX5_setOff_2 : decode cX5_setOff 2 = .ok (.iconst 0, 1) := by decide +kernel
theorem dX5_setOff_3 : decode cX5_setOff 3 = .ok (.istore 4, 2) := by decide +kernel
theorem dX5_setOff_5 : decode cX5_setOff 5 = .ok (.iload 4, 2) := by decide +kernel
theorem dX5_setOff_7 : decode cX5_setOff 7 = .ok (.aload_n 0, 1) := by decide +kernel
theorem dX5_setOff_8 : decode cX5_setOff 8 = .ok (.getfield 7, 3) := by decide +kernel
theorem dX5_setOff_11 : decode cX5_setOff 11 = .ok (.iconst 0, 1) := by decide +kernel
theorem dX5_setOff_12 : decode cX5_setOff 12 = .ok (.iaload, 1) := by decide +kernel
theorem dX5_setOff_13 : decode cX5_setOff 13 = .ok (.if_icmp .ge 47, 3) := by decide +kernel
theorem dX5_setOff_16 : decode cX5_setOff 16 = .ok (.aload_n 0, 1) := by decide +kernel
theorem dX5_setOff_17 : decode cX5_setOff 17 = .ok (.aload_n 0, 1) := by decide +kernel
theorem dX5_setOff_18 : decode cX5_setOff 18 = .ok (.getfield 7, 3) := by decide +kernel
theorem dX5_setOff_21 : decode cX5_setOff 21 = .ok (.bipush 6, 2) := by decide +kernel
theorem dX5_setOff_23 : decode cX5_setOff 23 = .ok (.iload 4, 2) := by decide +kernel
theorem dX5_setOff_25 : decode cX5_setOff 25 = .ok (.iadd, 1) := by decide +kernel
theorem dX5_setOff_26 : decode cX5_setOff 26 = .ok (.iaload, 1) := by decide +kernel
theorem dX5_setOff_27 : decode cX5_setOff 27 = .ok (.iload_n 1, 1) := by decide +kernel
theorem dX5_setOff_28 : decode cX5_setOff 28 = .ok (.iload_n 2, 1) := by decide +kernel
theorem dX5_setOff_29 : decode cX5_setOff 29 = .ok (.invokevirtual 104, 3) := by decide +kernel
theorem dX5_setOff_32 : decode cX5_setOff 32 = .ok (.ifCond .eq 22, 3) := by decide +kernel
theorem dX5_setOff_35 : decode cX5_setOff 35 = .ok (.aload_n 0, 1) := by decide +kernel
theorem dX5_setOff_36 : decode cX5_setOff 36 = .ok (.getfield 22, 3) := by decide +kernel
theorem dX5_setOff_39 : decode cX5_setOff 39 = .ok (.iload_n 3, 1) := by decide +kernel
theorem dX5_setOff_40 : decode cX5_setOff 40 = .ok (.aload_n 0, 1) := by decide +kernel
theorem dX5_setOff_41 : decode cX5_setOff 41 = .ok (.getfield 7, 3) := by decide +kernel
theorem dX5_setOff_44 : decode cX5_setOff 44 = .ok (.bipush 6, 2) := by decide +kernel
theorem dX5_setOff_46 : decode cX5_setOff 46 = .ok (.iload 4, 2) := by decide +kernel
theorem dX5_setOff_48 : decode cX5_setOff 48 = .ok (.iadd, 1) := by decide +kernel
theorem dX5_setOff_49 : decode cX5_setOff 49 = .ok (.iaload, 1) := by decide +kernel
theorem dX5_setOff_50 : decode cX5_setOff 50 = .ok (.iastore, 1) := by decide +kernel
theorem dX5_setOff_51 : decode cX5_setOff 51 = .ok (.iinc 3 1, 3) := by decide +kernel
theorem dX5_setOff_54 : decode cX5_setOff 54 = .ok (.iinc 4 1, 3) := by decide +kernel
theorem dX5_setOff_57 : decode cX5_setOff 57 = .ok (.goto (-52), 3) := by decide +kernel
theorem dX5_setOff_60 : decode cX5_setOff 60 = .ok (.iconst 0, 1) := by decide +kernel
theorem dX5_setOff_61 : decode cX5_setOff 61 = .ok (.istore 4, 2) := by decide +kernel
theorem dX5_setOff_63 : decode cX5_setOff 63 = .ok (.iload 4, 2) := by decide +kernel
theorem dX5_setOff_65 : decode cX5_setOff 65 = .ok (.iload_n 3, 1) := by decide +kernel
theorem dX5_setOff_66 : decode cX5_setOff 66 = .ok (.if_icmp .ge 109, 3) := by decide +kernel
theorem dX5_setOff_69 : decode cX5_setOff 69 = .ok (.aload_n 0, 1) := by decide +kernel
theorem dX5_setOff_70 : decode cX5_setOff 70 = .ok (.getfield 22, 3) := by decide +kernel
theorem dX5_setOff_73 : decode cX5_setOff 73 = .ok (.iload 4, 2) := by decide +kernel
theorem dX5_setOff_75 : decode cX5_setOff 75 = .ok (.iaload, 1) := by decide +kernel
theorem dX5_setOff_76 : decode cX5_setOff 76 = .ok (.istore 5, 2) := by decide +kernel
theorem dX5_setOff_78 : decode cX5_setOff 78 = .ok (.aload_n 0, 1) := by decide +kernel
theorem dX5_setOff_79 : decode cX5_setOff 79 = .ok (.iload 5, 2) := by decide +kernel
theorem dX5_setOff_81 : decode cX5_setOff 81 = .ok (.bipush 7, 2) := by decide +kernel
theorem dX5_setOff_83 : decode cX5_setOff 83 = .ok (.invokevirtual 32, 3) := by decide +kernel
theorem dX5_setOff_86 : decode cX5_setOff 86 = .ok (.istore 6, 2) := by decide +kernel
theorem dX5_setOff_88 : decode cX5_setOff 88 = .ok (.aload_n 0, 1) := by decide +kernel
theorem dX5_setOff_89 : decode cX5_setOff 89 = .ok (.iload 5, 2) := by decide +kernel
theorem dX5_setOff_91 : decode cX5_setOff 91 = .ok (.bipush 8, 2) := by decide +kernel
theorem dX5_setOff_93 : decode cX5_setOff 93 = .ok (.invokevirtual 32, 3) := by decide +kernel
theorem dX5_setOff_96 : decode cX5_setOff 96 = .ok (.istore 7, 2) := by decide +kernel
theorem dX5_setOff_98 : decode cX5_setOff 98 = .ok (.aload_n 0, 1) := by decide +kernel
theorem dX5_setOff_99 : decode cX5_setOff 99 = .ok (.iload 5, 2) := by decide +kernel
theorem dX5_setOff_101 : decode cX5_setOff 101 = .ok (.invokevirtual 59, 3) := by decide +kernel
theorem dX5_setOff_104 : decode cX5_setOff 104 = .ok (.aload_n 0, 1) := by decide +kernel
theorem dX5_setOff_105 : decode cX5_setOff 105 = .ok (.iload 5, 2) := by decide +kernel
theorem dX5_setOff_107 : decode cX5_setOff 107 = .ok (.invokevirtual 51, 3) := by decide +kernel
theorem dX5_setOff_110 : decode cX5_setOff 110 = .ok (.ifCond .ne 42, 3) := by decide +kernel
theorem dX5_setOff_113 : decode cX5_setOff 113 = .ok (.aload_n 0, 1) := by decide +kernel
theorem dX5_setOff_114 : decode cX5_setOff 114 = .ok (.iload 5, 2) := by decide +kernel
theorem dX5_setOff_116 : decode cX5_setOff 116 = .ok (.iconst 0, 1) := by decide +kernel
theorem dX5_setOff_117 : decode cX5_setOff 117 = .ok (.invokevirtual 55, 3) := by decide +kernel
theorem dX5_setOff_120 : decode cX5_setOff 120 = .ok (.ifCond .ne 32, 3) := by decide +kernel
theorem dX5_setOff_123 : decode cX5_setOff 123 = .ok (.aload_n 0, 1) := by decide +kernel
theorem dX5_setOff_124 : decode cX5_setOff 124 = .ok (.iload 5, 2) := by decide +kernel
theorem dX5_setOff_126 : decode cX5_setOff 126 = .ok (.iload 6, 2) := by decide +kernel
theorem dX5_setOff_128 : decode cX5_setOff 128 = .ok (.iload 7, 2) := by decide +kernel
theorem dX5_setOff_130 : decode cX5_setOff 130 = .ok (.invokevirtual 107, 3) := by decide +kernel
theorem dX5_setOff_133 : decode cX5_setOff 133 = .ok (.ifCond .eq 19, 3) := by decide +kernel
theorem dX5_setOff_136 : decode cX5_setOff 136 = .ok (.aload_n 0, 1) := by decide +kernel
theorem dX5_setOff_137 : decode cX5_setOff 137 = .ok (.iload 5, 2) := by decide +kernel
theorem dX5_setOff_139 : decode cX5_setOff 139 = .ok (.iload 6, 2) := by decide +kernel
theorem dX5_setOff_141 : decode cX5_setOff 141 = .ok (.iload 7, 2) := by decide +kernel
theorem dX5_setOff_143 : decode cX5_setOff 143 = .ok (.iconst 0, 1) := by decide +kernel
theorem dX5_setOff_144 : decode cX5_setOff 144 = .ok (.iconst 0, 1) := by decide +kernel
theorem dX5_setOff_145 : decode cX5_setOff 145 = .ok (.invokevirtual 110, 3) := by decide +kernel
theorem dX5_setOff_148 : decode cX5_setOff 148 = .ok (.pop, 1) := by decide +kernel
theorem dX5_setOff_149 : decode cX5_setOff 149 = .ok (.goto 13, 3) := by decide +kernel
theorem dX5_setOff_152 : decode cX5_setOff 152 = .ok (.aload_n 0, 1) := by decide +kernel
theorem dX5_setOff_153 : decode cX5_setOff 153 = .ok (.getfield 7, 3) := by decide +kernel
theorem dX5_setOff_156 : decode cX5_setOff 156 = .ok (.iconst 4, 1) := by decide +kernel
theorem dX5_setOff_157 : decode cX5_setOff 157 = .ok (.dup2, 1) := by decide +kernel
theorem dX5_setOff_158 : decode cX5_setOff 158 = .ok (.iaload, 1) := by decide +kernel
theorem dX5_setOff_159 : decode cX5_setOff 159 = .ok (.iconst 1, 1) := by decide +kernel
theorem dX5_setOff_160 : decode cX5_setOff 160 = .ok (.iadd, 1) := by decide +kernel
theorem dX5_setOff_161 : decode cX5_setOff 161 = .ok (.iastore, 1) := by decide +kernel
theorem dX5_setOff_162 : decode cX5_setOff 162 = .ok (.aload_n 0, 1) := by decide +kernel
theorem dX5_setOff_163 : decode cX5_setOff 163 = .ok (.iload 5, 2) := by decide +kernel
theorem dX5_setOff_165 : decode cX5_setOff 165 = .ok (.iload_n 1, 1) := by decide +kernel
theorem dX5_setOff_166 : decode cX5_setOff 166 = .ok (.invokevirtual 114, 3) := by decide +kernel
theorem dX5_setOff_169 : decode cX5_setOff 169 = .ok (.iinc 4 1, 3) := by decide +kernel
theorem dX5_setOff_172 : decode cX5_setOff 172 = .ok (.goto (-109), 3) := by decide +kernel
theorem dX5_setOff_175 : decode cX5_setOff 175 = .ok (.iload_n 3, 1) := by decide +kernel
theorem dX5_setOff_176 : decode cX5_setOff 176 = .ok (.ireturn, 1) := by decide +kernel
theorem dX5_act_0 : decode cX5_act 0 = .ok (.aload_n 0, 1) := by decide +kernel
theorem dX5_act_1 : decode cX5_act 1 = .ok (.getfield 7, 3) := by decide +kernel
theorem dX5_act_4 : decode cX5_act 4 = .ok (.iconst 2, 1) := by decide +kernel
theorem dX5_act_5 : decode cX5_act 5 = .ok (.iaload, 1) := by decide +kernel
theorem dX5_act_6 : decode cX5_act 6 = .ok (.istore 5, 2) := by decide +kernel
theorem dX5_act_8 : decode cX5_act 8 = .ok (.aload_n 0, 1) := by decide +kernel
theorem dX5_act_9 : decode cX5_act 9 = .ok (.aload_n 0, 1) := by decide +kernel
theorem dX5_act_10 : decode cX5_act 10 = .ok (.iload 5, 2) := by decide +kernel
theorem dX5_act_12 : decode cX5_act 12 = .ok (.iload_n 1, 1) := by decide +kernel
theorem dX5_act_13 : decode cX5_act 13 = .ok (.invokevirtual 117, 3) := by decide +kernel
theorem dX5_act_16 : decode cX5_act 16 = .ok (.putfield 120, 3) := by decide +kernel
theorem dX5_act_19 : decode cX5_act 19 = .ok (.iconst (-1), 1) := by decide +kernel
theorem dX5_act_20 : decode cX5_act 20 = .ok (.istore 6, 2) := by decide +kernel
theorem dX5_act_22 : decode cX5_act 22 = .ok (.aload_n 0, 1) := by decide +kernel
theorem dX5_act_23 : decode cX5_act 23 = .ok (.iload 5, 2) := by decide +kernel
theorem dX5_act_25 : decode cX5_act 25 = .ok (.invokevirtual 51, 3) := by decide +kernel
theorem dX5_act_28 : decode cX5_act 28 = .ok (.ifCond .ne 30, 3) := by decide +kernel
theorem dX5_act_31 : decode cX5_act 31 = .ok (.aload_n 0, 1) := by decide +kernel
theorem dX5_act_32 : decode cX5_act 32 = .ok (.iload 5, 2) := by decide +kernel
theorem dX5_act_34 : decode cX5_act 34 = .ok (.iload_n 1, 1) := by decide +kernel
theorem dX5_act_35 : decode cX5_act 35 = .ok (.iload_n 2, 1) := by decide +kernel
theorem dX5_act_36 : decode cX5_act 36 = .ok (.invokevirtual 107, 3) := by decide +kernel
theorem dX5_act_39 : decode cX5_act 39 = .ok (.ifCond .eq 19, 3) := by decide +kernel
theorem dX5_act_42 : decode cX5_act 42 = .ok (.aload_n 0, 1) := by decide +kernel
theorem dX5_act_43 : decode cX5_act 43 = .ok (.iload 5, 2) := by decide +kernel
theorem dX5_act_45 : decode cX5_act 45 = .ok (.iload_n 1, 1) := by decide +kernel
theorem dX5_act_46 : decode cX5_act 46 = .ok (.iload_n 2, 1) := by decide +kernel
theorem dX5_act_47 : decode cX5_act 47 = .ok (.iload_n 3, 1) := by decide +kernel
theorem dX5_act_48 : decode cX5_act 48 = .ok (.iload 4, 2) := by decide +kernel
theorem dX5_act_50 : decode cX5_act 50 = .ok (.invokevirtual 110, 3) := by decide +kernel
theorem dX5_act_53 : decode cX5_act 53 = .ok (.istore 6, 2) := by decide +kernel
theorem dX5_act_55 : decode cX5_act 55 = .ok (.goto 13, 3) := by decide +kernel
theorem dX5_act_58 : decode cX5_act 58 = .ok (.aload_n 0, 1) := by decide +kernel
theorem dX5_act_59 : decode cX5_act 59 = .ok (.getfield 7, 3) := by decide +kernel
theorem dX5_act_62 : decode cX5_act 62 = .ok (.iconst 4, 1) := by decide +kernel
theorem dX5_act_63 : decode cX5_act 63 = .ok (.dup2, 1) := by decide +kernel
theorem dX5_act_64 : decode cX5_act 64 = .ok (.iaload, 1) := by decide +kernel
theorem dX5_act_65 : decode cX5_act 65 = .ok (.iconst 1, 1) := by decide +kernel
theorem dX5_act_66 : decode cX5_act 66 = .ok (.iadd, 1) := by decide +kernel
theorem dX5_act_67 : decode cX5_act 67 = .ok (.iastore, 1) := by decide +kernel
theorem dX5_act_68 : decode cX5_act 68 = .ok (.aload_n 0, 1) := by decide +kernel
theorem dX5_act_69 : decode cX5_act 69 = .ok (.invokevirtual 123, 3) := by decide +kernel
theorem dX5_act_72 : decode cX5_act 72 = .ok (.iload 6, 2) := by decide +kernel
theorem dX5_act_74 : decode cX5_act 74 = .ok (.ireturn, 1) := by decide +kernel
theorem dX5_canAct_0 : decode cX5_canAct 0 = .ok (.aload_n 0, 1) := by decide +kernel
theorem dX5_canAct_1 : decode cX5_canAct 1 = .ok (.getfield 7, 3) := by decide +kernel
theorem dX5_canAct_4 : decode cX5_canAct 4 = .ok (.iconst 2, 1) := by decide +kernel
theorem dX5_canAct_5 : decode cX5_canAct 5 = .ok (.iaload, 1) := by decide +kernel
theorem dX5_canAct_6 : decode cX5_canAct 6 = .ok (.iconst (-1), 1) := by decide +kernel
theorem dX5_canAct_7 : decode cX5_canAct 7 = .ok (.if_icmp .eq 22, 3) := by decide +kernel
theorem dX5_canAct_10 : decode cX5_canAct 10 = .ok (.aload_n 0, 1) := by decide +kernel
theorem dX5_canAct_11 : decode cX5_canAct 11 = .ok (.aload_n 0, 1) := by decide +kernel
theorem dX5_canAct_12 : decode cX5_canAct 12 = .ok (.getfield 7, 3) := by decide +kernel
theorem dX5_canAct_15 : decode cX5_canAct 15 = .ok (.iconst 2, 1) := by decide +kernel
theorem dX5_canAct_16 : decode cX5_canAct 16 = .ok (.iaload, 1) := by decide +kernel
theorem dX5_canAct_17 : decode cX5_canAct 17 = .ok (.iload_n 1, 1) := by decide +kernel
theorem dX5_canAct_18 : decode cX5_canAct 18 = .ok (.iload_n 2, 1) := by decide +kernel
theorem dX5_canAct_19 : decode cX5_canAct 19 = .ok (.invokevirtual 107, 3) := by decide +kernel
theorem dX5_canAct_22 : decode cX5_canAct 22 = .ok (.ifCond .eq 7, 3) := by decide +kernel
theorem dX5_canAct_25 : decode cX5_canAct 25 = .ok (.iconst 1, 1) := by decide +kernel
theorem dX5_canAct_26 : decode cX5_canAct 26 = .ok (.goto 4, 3) := by decide +kernel
theorem dX5_canAct_29 : decode cX5_canAct 29 = .ok (.iconst 0, 1) := by decide +kernel
theorem dX5_canAct_30 : decode cX5_canAct 30 = .ok (.ireturn, 1) := by decide +kernel
theorem dX5_whyNotAct_0 : decode cX5_whyNotAct 0 = .ok (.aload_n 0, 1) := by decide +kernel
theorem dX5_whyNotAct_1 : decode cX5_whyNotAct 1 = .ok (.iload_n 2, 1) := by decide +kernel
theorem dX5_whyNotAct_2 : decode cX5_whyNotAct 2 = .ok (.invokevirtual 126, 3) := by decide +kernel
theorem dX5_whyNotAct_5 : decode cX5_whyNotAct 5 = .ok (.ifCond .ne 7, 3) := by decide +kernel
theorem dX5_whyNotAct_8 : decode cX5_whyNotAct 8 = .ok (.iconst 1, 1) := by decide +kernel
theorem dX5_whyNotAct_9 : decode cX5_whyNotAct 9 = .ok (.goto 17, 3) := by decide +kernel
theorem dX5_whyNotAct_12 : decode cX5_whyNotAct 12 = .ok (.aload_n 0, 1) := by decide +kernel
theorem dX5_whyNotAct_13 : decode cX5_whyNotAct 13 = .ok (.iload_n 1, 1) := by decide +kernel
theorem dX5_whyNotAct_14 : decode cX5_whyNotAct 14 = .ok (.iload_n 2, 1) := by decide +kernel
theorem dX5_whyNotAct_15 : decode cX5_whyNotAct 15 = .ok (.invokevirtual 129, 3) := by decide +kernel
theorem dX5_whyNotAct_18 : decode cX5_whyNotAct 18 = .ok (.ifCond .eq 7, 3) := by decide +kernel
theorem dX5_whyNotAct_21 : decode cX5_whyNotAct 21 = .ok (.iconst 0, 1) := by decide +kernel
theorem dX5_whyNotAct_22 : decode cX5_whyNotAct 22 = .ok (.goto 4, 3) := by decide +kernel
theorem dX5_whyNotAct_25 : decode cX5_whyNotAct 25 = .ok (.iconst 2, 1) := by decide +kernel
theorem dX5_whyNotAct_26 : decode cX5_whyNotAct 26 = .ok (.ireturn, 1) := by decide +kernel
theorem dX5_strike_0 : decode cX5_strike 0 = .ok (.aload_n 0, 1) := by decide +kernel
theorem dX5_strike_1 : decode cX5_strike 1 = .ok (.aload_n 0, 1) := by decide +kernel
theorem dX5_strike_2 : decode cX5_strike 2 = .ok (.iconst 0, 1) := by decide +kernel
theorem dX5_strike_3 : decode cX5_strike 3 = .ok (.iload_n 1, 1) := by decide +kernel
theorem dX5_strike_4 : decode cX5_strike 4 = .ok (.invokevirtual 132, 3) := by decide +kernel
theorem dX5_strike_7 : decode cX5_strike 7 = .ok (.putfield 28, 3) := by decide +kernel
theorem dX5_strike_10 : decode cX5_strike 10 = .ok (.aload_n 0, 1) := by decide +kernel
theorem dX5_strike_11 : decode cX5_strike 11 = .ok (.getfield 28, 3) := by decide +kernel
theorem dX5_strike_14 : decode cX5_strike 14 = .ok (.ifCond .le 5, 3) := by decide +kernel
theorem dX5_strike_17 : decode cX5_strike 17 = .ok (.iconst 0, 1) := by decide +kernel
theorem dX5_strike_18 : decode cX5_strike 18 = .ok (.ireturn, 1) := by decide +kernel
theorem dX5_strike_19 : decode cX5_strike 19 = .ok (.aload_n 0, 1) := by decide +kernel
theorem dX5_strike_20 : decode cX5_strike 20 = .ok (.invokevirtual 82, 3) := by decide +kernel
theorem dX5_strike_23 : decode cX5_strike 23 = .ok (.aload_n 0, 1) := by decide +kernel
theorem dX5_strike_24 : decode cX5_strike 24 = .ok (.iconst 0, 1) := by decide +kernel
theorem dX5_strike_25 : decode cX5_strike 25 = .ok (.iload_n 1, 1) := by decide +kernel
theorem dX5_strike_26 : decode cX5_strike 26 = .ok (.iconst 0, 1) := by decide +kernel
theorem dX5_strike_27 : decode cX5_strike 27 = .ok (.iconst 0, 1) := by decide +kernel
theorem dX5_strike_28 : decode cX5_strike 28 = .ok (.invokevirtual 135, 3) := by decide +kernel
theorem dX5_strike_31 : decode cX5_strike 31 = .ok (.ireturn, 1) := by decide +kernel
theorem dX5_step_0 : decode cX5_step 0 = .ok (.aload_n 0, 1) := by decide +kernel
theorem dX5_step_1 : decode cX5_step 1 = .ok (.iload_n 1, 1) := by decide +kernel
theorem dX5_step_2 : decode cX5_step 2 = .ok (.iconst 0, 1) := by decide +kernel
theorem dX5_step_3 : decode cX5_step 3 = .ok (.bipush 9, 2) := by decide +kernel
theorem dX5_step_5 : decode cX5_step 5 = .ok (.invokestatic 85, 3) := by decide +kernel
theorem dX5_step_8 : decode cX5_step 8 = .ok (.ifCond .ne 7, 3) := by decide +kernel
theorem dX5_step_11 : decode cX5_step 11 = .ok (.iconst 1, 1) := by decide +kernel
theorem dX5_step_12 : decode cX5_step 12 = .ok (.goto 17, 3) := by decide +kernel
theorem dX5_step_15 : decode cX5_step 15 = .ok (.aload_n 0, 1) := by decide +kernel
theorem dX5_step_16 : decode cX5_step 16 = .ok (.iconst 1, 1) := by decide +kernel
theorem dX5_step_17 : decode cX5_step 17 = .ok (.iload_n 1, 1) := by decide +kernel
theorem dX5_step_18 : decode cX5_step 18 = .ok (.invokevirtual 129, 3) := by decide +kernel
theorem dX5_step_21 : decode cX5_step 21 = .ok (.ifCond .eq 7, 3) := by decide +kernel
theorem dX5_step_24 : decode cX5_step 24 = .ok (.iconst 0, 1) := by decide +kernel
theorem dX5_step_25 : decode cX5_step 25 = .ok (.goto 4, 3) := by decide +kernel
theorem dX5_step_28 : decode cX5_step 28 = .ok (.iconst 2, 1) := by decide +kernel
theorem dX5_step_29 : decode cX5_step 29 = .ok (.putfield 28, 3) := by decide +kernel
theorem dX5_step_32 : decode cX5_step 32 = .ok (.aload_n 0, 1) := by decide +kernel
theorem dX5_step_33 : decode cX5_step 33 = .ok (.getfield 28, 3) := by decide +kernel
theorem dX5_step_36 : decode cX5_step 36 = .ok (.ifCond .le 5, 3) := by decide +kernel
theorem dX5_step_39 : decode cX5_step 39 = .ok (.iconst 0, 1) := by decide +kernel
theorem dX5_step_40 : decode cX5_step 40 = .ok (.ireturn, 1) := by decide +kernel
theorem dX5_step_41 : decode cX5_step 41 = .ok (.aload_n 0, 1) := by decide +kernel
theorem dX5_step_42 : decode cX5_step 42 = .ok (.invokevirtual 82, 3) := by decide +kernel
theorem dX5_step_45 : decode cX5_step 45 = .ok (.aload_n 0, 1) := by decide +kernel
theorem dX5_step_46 : decode cX5_step 46 = .ok (.iconst 1, 1) := by decide +kernel
theorem dX5_step_47 : decode cX5_step 47 = .ok (.iload_n 1, 1) := by decide +kernel
theorem dX5_step_48 : decode cX5_step 48 = .ok (.iconst 0, 1) := by decide +kernel
theorem dX5_step_49 : decode cX5_step 49 = .ok (.iconst 0, 1) := by decide +kernel
theorem dX5_step_50 : decode cX5_step 50 = .ok (.invokevirtual 135, 3) := by decide +kernel
theorem dX5_step_53 : decode cX5_step 53 = .ok (.ireturn, 1) := by decide +kernel
theorem dX5_help_0 : decode cX5_help 0 = .ok (.aload_n 0, 1) := by decide +kernel
theorem dX5_help_1 : decode cX5_help 1 = .ok (.aload_n 0, 1) := by decide +kernel
theorem dX5_help_2 : decode cX5_help 2 = .ok (.iconst 2, 1) := by decide +kernel
theorem dX5_help_3 : decode cX5_help 3 = .ok (.iload_n 1, 1) := by decide +kernel
theorem dX5_help_4 : decode cX5_help 4 = .ok (.invokevirtual 132, 3) := by decide +kernel
theorem dX5_help_7 : decode cX5_help 7 = .ok (.putfield 28, 3) := by decide +kernel
theorem dX5_help_10 : decode cX5_help 10 = .ok (.aload_n 0, 1) := by decide +kernel
theorem dX5_help_11 : decode cX5_help 11 = .ok (.getfield 28, 3) := by decide +kernel
theorem dX5_help_14 : decode cX5_help 14 = .ok (.ifCond .le 5, 3) := by decide +kernel
theorem dX5_help_17 : decode cX5_help 17 = .ok (.iconst 0, 1) := by decide +kernel
theorem dX5_help_18 : decode cX5_help 18 = .ok (.ireturn, 1) := by decide +kernel
theorem dX5_help_19 : decode cX5_help 19 = .ok (.aload_n 0, 1) := by decide +kernel
theorem dX5_help_20 : decode cX5_help 20 = .ok (.invokevirtual 82, 3) := by decide +kernel
theorem dX5_help_23 : decode cX5_help 23 = .ok (.aload_n 0, 1) := by decide +kernel
theorem dX5_help_24 : decode cX5_help 24 = .ok (.iconst 2, 1) := by decide +kernel
theorem dX5_help_25 : decode cX5_help 25 = .ok (.iload_n 1, 1) := by decide +kernel
theorem dX5_help_26 : decode cX5_help 26 = .ok (.iconst 0, 1) := by decide +kernel
theorem dX5_help_27 : decode cX5_help 27 = .ok (.iconst 0, 1) := by decide +kernel
theorem dX5_help_28 : decode cX5_help 28 = .ok (.invokevirtual 135, 3) := by decide +kernel
theorem dX5_help_31 : decode cX5_help 31 = .ok (.ireturn, 1) := by decide +kernel
theorem dX5_isCurse_0 : decode cX5_isCurse 0 = .ok (.iload_n 0, 1) := by decide +kernel
theorem dX5_isCurse_1 : decode cX5_isCurse 1 = .ok (.iconst 0, 1) := by decide +kernel
theorem dX5_isCurse_2 : decode cX5_isCurse 2 = .ok (.iconst 3, 1) := by decide +kernel
theorem dX5_isCurse_3 : decode cX5_isCurse 3 = .ok (.invokestatic 85, 3) := by decide +kernel
theorem dX5_isCurse_6 : decode cX5_isCurse 6 = .ok (.ifCond .eq 16, 3) := by decide +kernel
theorem dX5_isCurse_9 : decode cX5_isCurse 9 = .ok (.iload_n 1, 1) := by decide +kernel
theorem dX5_isCurse_10 : decode cX5_isCurse 10 = .ok (.iconst 1, 1) := by decide +kernel
theorem dX5_isCurse_11 : decode cX5_isCurse 11 = .ok (.iconst 5, 1) := by decide +kernel
theorem dX5_isCurse_12 : decode cX5_isCurse 12 = .ok (.invokestatic 85, 3) := by decide +kernel
theorem dX5_isCurse_15 : decode cX5_isCurse 15 = .ok (.ifCond .eq 7, 3) := by decide +kernel
theorem dX5_isCurse_18 : decode cX5_isCurse 18 = .ok (.iconst 1, 1) := by decide +kernel
theorem dX5_isCurse_19 : decode cX5_isCurse 19 = .ok (.goto 4, 3) := by decide +kernel
theorem dX5_isCurse_22 : decode cX5_isCurse 22 = .ok (.iconst 0, 1) := by decide +kernel
theorem dX5_isCurse_23 : decode cX5_isCurse 23 = .ok (.ireturn, 1) := by decide +kernel
theorem dX5_curse_0 : decode cX5_curse 0 = .ok (.aload_n 0, 1) := by decide +kernel
theorem dX5_curse_1 : decode cX5_curse 1 = .ok (.aload_n 0, 1) := by decide +kernel
theorem dX5_curse_2 : decode cX5_curse 2 = .ok (.iload_n 1, 1) := by decide +kernel
theorem dX5_curse_3 : decode cX5_curse 3 = .ok (.invokevirtual 126, 3) := by decide +kernel
theorem dX5_curse_6 : decode cX5_curse 6 = .ok (.ifCond .ne 7, 3) := by decide +kernel
theorem dX5_curse_9 : decode cX5_curse 9 = .ok (.iconst 1, 1) := by decide +kernel
theorem dX5_curse_10 : decode cX5_curse 10 = .ok (.goto 29, 3) := by decide +kernel
theorem dX5_curse_13 : decode cX5_curse 13 = .ok (.iload_n 2, 1) := by decide +kernel
theorem dX5_curse_14 : decode cX5_curse 14 = .ok (.iload_n 3, 1) := by decide +kernel
theorem dX5_curse_15 : decode cX5_curse 15 = .ok (.invokestatic 139, 3) := by decide +kernel
theorem dX5_curse_18 : decode cX5_curse 18 = .ok (.ifCond .ne 7, 3) := by decide +kernel
theorem dX5_curse_21 : decode cX5_curse 21 = .ok (.iconst 2, 1) := by decide +kernel
theorem dX5_curse_22 : decode cX5_curse 22 = .ok (.goto 17, 3) := by decide +kernel
theorem dX5_curse_25 : decode cX5_curse 25 = .ok (.aload_n 0, 1) := by decide +kernel
theorem dX5_curse_26 : decode cX5_curse 26 = .ok (.iconst 3, 1) := by decide +kernel
theorem dX5_curse_27 : decode cX5_curse 27 = .ok (.iload_n 1, 1) := by decide +kernel
theorem dX5_curse_28 : decode cX5_curse 28 = .ok (.invokevirtual 129, 3) := by decide +kernel
theorem dX5_curse_31 : decode cX5_curse 31 = .ok (.ifCond .eq 7, 3) := by decide +kernel
theorem dX5_curse_34 : decode cX5_curse 34 = .ok (.iconst 0, 1) := by decide +kernel
theorem dX5_curse_35 : decode cX5_curse 35 = .ok (.goto 4, 3) := by decide +kernel
theorem dX5_curse_38 : decode cX5_curse 38 = .ok (.iconst 3, 1) := by decide +kernel
theorem dX5_curse_39 : decode cX5_curse 39 = .ok (.putfield 28, 3) := by decide +kernel
theorem dX5_curse_42 : decode cX5_curse 42 = .ok (.aload_n 0, 1) := by decide +kernel
theorem dX5_curse_43 : decode cX5_curse 43 = .ok (.getfield 28, 3) := by decide +kernel
theorem dX5_curse_46 : decode cX5_curse 46 = .ok (.ifCond .le 5, 3) := by decide +kernel
theorem dX5_curse_49 : decode cX5_curse 49 = .ok (.iconst 0, 1) := by decide +kernel
theorem dX5_curse_50 : decode cX5_curse 50 = .ok (.ireturn, 1) := by decide +kernel
theorem dX5_curse_51 : decode cX5_curse 51 = .ok (.aload_n 0, 1) := by decide +kernel
theorem dX5_curse_52 : decode cX5_curse 52 = .ok (.invokevirtual 82, 3) := by decide +kernel
theorem dX5_curse_55 : decode cX5_curse 55 = .ok (.aload_n 0, 1) := by decide +kernel
theorem dX5_curse_56 : decode cX5_curse 56 = .ok (.iconst 3, 1) := by decide +kernel
theorem dX5_curse_57 : decode cX5_curse 57 = .ok (.iload_n 1, 1) := by decide +kernel
theorem dX5_curse_58 : decode cX5_curse 58 = .ok (.iload_n 2, 1) := by decide +kernel
theorem dX5_curse_59 : decode cX5_curse 59 = .ok (.iload_n 3, 1) := by decide +kernel
theorem dX5_curse_60 : decode cX5_curse 60 = .ok (.invokevirtual 135, 3) := by decide +kernel
theorem dX5_curse_63 : decode cX5_curse 63 = .ok (.ireturn, 1) := by decide +kernel
theorem dX5_delayIt_0 : decode cX5_delayIt 0 = .ok (.aload_n 0, 1) := by decide +kernel
theorem dX5_delayIt_1 : decode cX5_delayIt 1 = .ok (.aload_n 0, 1) := by decide +kernel
theorem dX5_delayIt_2 : decode cX5_delayIt 2 = .ok (.getfield 7, 3) := by decide +kernel
theorem dX5_delayIt_5 : decode cX5_delayIt 5 = .ok (.iconst 2, 1) := by decide +kernel
theorem dX5_delayIt_6 : decode cX5_delayIt 6 = .ok (.iaload, 1) := by decide +kernel
theorem dX5_delayIt_7 : decode cX5_delayIt 7 = .ok (.bipush 6, 2) := by decide +kernel
theorem dX5_delayIt_9 : decode cX5_delayIt 9 = .ok (.iconst 1, 1) := by decide +kernel
theorem dX5_delayIt_10 : decode cX5_delayIt 10 = .ok (.invokevirtual 47, 3) := by decide +kernel
theorem dX5_delayIt_13 : decode cX5_delayIt 13 = .ok (.aload_n 0, 1) := by decide +kernel
theorem dX5_delayIt_14 : decode cX5_delayIt 14 = .ok (.invokevirtual 123, 3) := by decide +kernel
theorem dX5_delayIt_17 : decode cX5_delayIt 17 = .ok (.return_, 1) := by decide +kernel
theorem dX5_delay_0 : decode cX5_delay 0 = .ok (.aload_n 0, 1) := by decide +kernel
theorem dX5_delay_1 : decode cX5_delay 1 = .ok (.aload_n 0, 1) := by decide +kernel
theorem dX5_delay_2 : decode cX5_delay 2 = .ok (.getfield 7, 3) := by decide +kernel
theorem dX5_delay_5 : decode cX5_delay 5 = .ok (.iconst 2, 1) := by decide +kernel
theorem dX5_delay_6 : decode cX5_delay 6 = .ok (.iaload, 1) := by decide +kernel
theorem dX5_delay_7 : decode cX5_delay 7 = .ok (.iconst (-1), 1) := by decide +kernel
theorem dX5_delay_8 : decode cX5_delay 8 = .ok (.if_icmp .ne 7, 3) := by decide +kernel
theorem dX5_delay_11 : decode cX5_delay 11 = .ok (.iconst 1, 1) := by decide +kernel
theorem dX5_delay_12 : decode cX5_delay 12 = .ok (.goto 4, 3) := by decide +kernel
theorem dX5_delay_15 : decode cX5_delay 15 = .ok (.iconst 0, 1) := by decide +kernel
theorem dX5_delay_16 : decode cX5_delay 16 = .ok (.putfield 28, 3) := by decide +kernel
theorem dX5_delay_19 : decode cX5_delay 19 = .ok (.aload_n 0, 1) := by decide +kernel
theorem dX5_delay_20 : decode cX5_delay 20 = .ok (.getfield 28, 3) := by decide +kernel
theorem dX5_delay_23 : decode cX5_delay 23 = .ok (.ifCond .le 5, 3) := by decide +kernel
theorem dX5_delay_26 : decode cX5_delay 26 = .ok (.iconst 0, 1) := by decide +kernel
theorem dX5_delay_27 : decode cX5_delay 27 = .ok (.ireturn, 1) := by decide +kernel
theorem dX5_delay_28 : decode cX5_delay 28 = .ok (.aload_n 0, 1) := by decide +kernel
theorem dX5_delay_29 : decode cX5_delay 29 = .ok (.invokevirtual 82, 3) := by decide +kernel
theorem dX5_delay_32 : decode cX5_delay 32 = .ok (.aload_n 0, 1) := by decide +kernel
theorem dX5_delay_33 : decode cX5_delay 33 = .ok (.invokevirtual 142, 3) := by decide +kernel
theorem dX5_delay_36 : decode cX5_delay 36 = .ok (.aload_n 0, 1) := by decide +kernel
theorem dX5_delay_37 : decode cX5_delay 37 = .ok (.getfield 7, 3) := by decide +kernel
theorem dX5_delay_40 : decode cX5_delay 40 = .ok (.iconst 2, 1) := by decide +kernel
theorem dX5_delay_41 : decode cX5_delay 41 = .ok (.iaload, 1) := by decide +kernel
theorem dX5_delay_42 : decode cX5_delay 42 = .ok (.ireturn, 1) := by decide +kernel
theorem dX5_whyNotReady_0 : decode cX5_whyNotReady 0 = .ok (.aload_n 0, 1) := by decide +kernel
theorem dX5_whyNotReady_1 : decode cX5_whyNotReady 1 = .ok (.iload_n 2, 1) := by decide +kernel
theorem dX5_whyNotReady_2 : decode cX5_whyNotReady 2 = .ok (.invokevirtual 126, 3) := by decide +kernel
theorem dX5_whyNotReady_5 : decode cX5_whyNotReady 5 = .ok (.ifCond .eq 16, 3) := by decide +kernel
theorem dX5_whyNotReady_8 : decode cX5_whyNotReady 8 = .ok (.aload_n 0, 1) := by decide +kernel
theorem dX5_whyNotReady_9 : decode cX5_whyNotReady 9 = .ok (.iload_n 3, 1) := by decide +kernel
theorem dX5_whyNotReady_10 : decode cX5_whyNotReady 10 = .ok (.invokevirtual 126, 3) := by decide +kernel
theorem dX5_whyNotReady_13 : decode cX5_whyNotReady 13 = .ok (.ifCond .ne 10, 3) := by decide +kernel
theorem dX5_whyNotReady_16 : decode cX5_whyNotReady 16 = .ok (.iload_n 3, 1) := by decide +kernel
theorem dX5_whyNotReady_17 : decode cX5_whyNotReady 17 = .ok (.iconst (-1), 1) := by decide +kernel
theorem dX5_whyNotReady_18 : decode cX5_whyNotReady 18 = .ok (.if_icmp .eq 5, 3) := by decide +kernel
theorem dX5_whyNotReady_21 : decode cX5_whyNotReady 21 = .ok (.iconst 1, 1) := by decide +kernel
theorem dX5_whyNotReady_22 : decode cX5_whyNotReady 22 = .ok (.ireturn, 1) := by decide +kernel
theorem dX5_whyNotReady_23 : decode cX5_whyNotReady 23 = .ok (.iload_n 1, 1) := by decide +kernel
theorem dX5_whyNotReady_24 : decode cX5_whyNotReady 24 = .ok (.ifCond .eq 8, 3) := by decide +kernel
theorem dX5_whyNotReady_27 : decode cX5_whyNotReady 27 = .ok (.iload_n 1, 1) := by decide +kernel
theorem dX5_whyNotReady_28 : decode cX5_whyNotReady 28 = .ok (.iconst 2, 1) := by decide +kernel
theorem dX5_whyNotReady_29 : decode cX5_whyNotReady 29 = .ok (.if_icmp .ne 13, 3) := by decide +kernel
theorem dX5_whyNotReady_32 : decode cX5_whyNotReady 32 = .ok (.iload 4, 2) := by decide +kernel
theorem dX5_whyNotReady_34 : decode cX5_whyNotReady 34 = .ok (.iconst 0, 1) := by decide +kernel
theorem dX5_whyNotReady_35 : decode cX5_whyNotReady 35 = .ok (.iconst 3, 1) := by decide +kernel
theorem dX5_whyNotReady_36 : decode cX5_whyNotReady 36 = .ok (.invokestatic 85, 3) := by decide +kernel
theorem dX5_whyNotReady_39 : decode cX5_whyNotReady 39 = .ok (.ifCond .ne 5, 3) := by decide +kernel
theorem dX5_whyNotReady_42 : decode cX5_whyNotReady 42 = .ok (.iconst 2, 1) := by decide +kernel
theorem dX5_whyNotReady_43 : decode cX5_whyNotReady 43 = .ok (.ireturn, 1) := by decide +kernel
theorem dX5_whyNotReady_44 : decode cX5_whyNotReady 44 = .ok (.aload_n 0, 1) := by decide +kernel
theorem dX5_whyNotReady_45 : decode cX5_whyNotReady 45 = .ok (.getfield 7, 3) := by decide +kernel
theorem dX5_whyNotReady_48 : decode cX5_whyNotReady 48 = .ok (.iconst 2, 1) := by decide +kernel
theorem dX5_whyNotReady_49 : decode cX5_whyNotReady 49 = .ok (.iaload, 1) := by decide +kernel
theorem dX5_whyNotReady_50 : decode cX5_whyNotReady 50 = .ok (.iconst (-1), 1) := by decide +kernel
theorem dX5_whyNotReady_51 : decode cX5_whyNotReady 51 = .ok (.if_icmp .eq 23, 3) := by decide +kernel
theorem dX5_whyNotReady_54 : decode cX5_whyNotReady 54 = .ok (.iload_n 2, 1) := by decide +kernel
theorem dX5_whyNotReady_55 : decode cX5_whyNotReady 55 = .ok (.aload_n 0, 1) := by decide +kernel
theorem dX5_whyNotReady_56 : decode cX5_whyNotReady 56 = .ok (.getfield 7, 3) := by decide +kernel
theorem dX5_whyNotReady_59 : decode cX5_whyNotReady 59 = .ok (.iconst 2, 1) := by decide +kernel
theorem dX5_whyNotReady_60 : decode cX5_whyNotReady 60 = .ok (.iaload, 1) := by decide +kernel
theorem dX5_whyNotReady_61 : decode cX5_whyNotReady 61 = .ok (.if_icmp .eq 13, 3) := by decide +kernel
theorem dX5_whyNotReady_64 : decode cX5_whyNotReady 64 = .ok (.iload_n 3, 1) := by decide +kernel
theorem dX5_whyNotReady_65 : decode cX5_whyNotReady 65 = .ok (.aload_n 0, 1) := by decide +kernel
theorem dX5_whyNotReady_66 : decode cX5_whyNotReady 66 = .ok (.getfield 7, 3) := by decide +kernel
theorem dX5_whyNotReady_69 : decode cX5_whyNotReady 69 = .ok (.iconst 2, 1) := by decide +kernel
theorem dX5_whyNotReady_70 : decode cX5_whyNotReady 70 = .ok (.iaload, 1) := by decide +kernel
theorem dX5_whyNotReady_71 : decode cX5_whyNotReady 71 = .ok (.if_icmp .ne 7, 3) := by decide +kernel
theorem dX5_whyNotReady_74 : decode cX5_whyNotReady 74 = .ok (.iconst 3, 1) := by decide +kernel
theorem dX5_whyNotReady_75 : decode cX5_whyNotReady 75 = .ok (.goto 4, 3) := by decide +kernel
theorem dX5_whyNotReady_78 : decode cX5_whyNotReady 78 = .ok (.iconst 0, 1) := by decide +kernel
theorem dX5_whyNotReady_79 : decode cX5_whyNotReady 79 = .ok (.ireturn, 1) := by decide +kernel
theorem dX5_ready_0 : decode cX5_ready 0 = .ok (.aload_n 0, 1) := by decide +kernel
theorem dX5_ready_1 : decode cX5_ready 1 = .ok (.aload_n 0, 1) := by decide +kernel
theorem dX5_ready_2 : decode cX5_ready 2 = .ok (.iload_n 1, 1) := by decide +kernel
theorem dX5_ready_3 : decode cX5_ready 3 = .ok (.iload_n 2, 1) := by decide +kernel
theorem dX5_ready_4 : decode cX5_ready 4 = .ok (.iload_n 3, 1) := by decide +kernel
theorem dX5_ready_5 : decode cX5_ready 5 = .ok (.iload 4, 2) := by decide +kernel
theorem dX5_ready_7 : decode cX5_ready 7 = .ok (.invokevirtual 145, 3) := by decide +kernel
theorem dX5_ready_10 : decode cX5_ready 10 = .ok (.putfield 28, 3) := by decide +kernel
theorem dX5_ready_13 : decode cX5_ready 13 = .ok (.aload_n 0, 1) := by decide +kernel
theorem dX5_ready_14 : decode cX5_ready 14 = .ok (.getfield 28, 3) := by decide +kernel
theorem dX5_ready_17 : decode cX5_ready 17 = .ok (.ifCond .le 5, 3) := by decide +kernel
theorem dX5_ready_20 : decode cX5_ready 20 = .ok (.iconst 0, 1) := by decide +kernel
theorem dX5_ready_21 : decode cX5_ready 21 = .ok (.ireturn, 1) := by decide +kernel
theorem dX5_ready_22 : decode cX5_ready 22 = .ok (.aload_n 0, 1) := by decide +kernel
theorem dX5_ready_23 : decode cX5_ready 23 = .ok (.invokevirtual 82, 3) := by decide +kernel
theorem dX5_ready_26 : decode cX5_ready 26 = .ok (.aload_n 0, 1) := by decide +kernel
theorem dX5_ready_27 : decode cX5_ready 27 = .ok (.getfield 7, 3) := by decide +kernel
theorem dX5_ready_30 : decode cX5_ready 30 = .ok (.iconst 2, 1) := by decide +kernel
theorem dX5_ready_31 : decode cX5_ready 31 = .ok (.iaload, 1) := by decide +kernel
theorem dX5_ready_32 : decode cX5_ready 32 = .ok (.istore 5, 2) := by decide +kernel
theorem dX5_ready_34 : decode cX5_ready 34 = .ok (.aload_n 0, 1) := by decide +kernel
theorem dX5_ready_35 : decode cX5_ready 35 = .ok (.iload 5, 2) := by decide +kernel
theorem dX5_ready_37 : decode cX5_ready 37 = .ok (.bipush 7, 2) := by decide +kernel
theorem dX5_ready_39 : decode cX5_ready 39 = .ok (.iload_n 1, 1) := by decide +kernel
theorem dX5_ready_40 : decode cX5_ready 40 = .ok (.invokevirtual 47, 3) := by decide +kernel
theorem dX5_ready_43 : decode cX5_ready 43 = .ok (.aload_n 0, 1) := by decide +kernel
theorem dX5_ready_44 : decode cX5_ready 44 = .ok (.iload 5, 2) := by decide +kernel
theorem dX5_ready_46 : decode cX5_ready 46 = .ok (.bipush 8, 2) := by decide +kernel
theorem dX5_ready_48 : decode cX5_ready 48 = .ok (.iload_n 2, 1) := by decide +kernel
theorem dX5_ready_49 : decode cX5_ready 49 = .ok (.invokevirtual 47, 3) := by decide +kernel
theorem dX5_ready_52 : decode cX5_ready 52 = .ok (.aload_n 0, 1) := by decide +kernel
theorem dX5_ready_53 : decode cX5_ready 53 = .ok (.iload 5, 2) := by decide +kernel
theorem dX5_ready_55 : decode cX5_ready 55 = .ok (.bipush 9, 2) := by decide +kernel
theorem dX5_ready_57 : decode cX5_ready 57 = .ok (.iload_n 3, 1) := by decide +kernel
theorem dX5_ready_58 : decode cX5_ready 58 = .ok (.invokevirtual 47, 3) := by decide +kernel
theorem dX5_ready_61 : decode cX5_ready 61 = .ok (.aload_n 0, 1) := by decide +kernel
theorem dX5_ready_62 : decode cX5_ready 62 = .ok (.iload 5, 2) := by decide +kernel
theorem dX5_ready_64 : decode cX5_ready 64 = .ok (.bipush 10, 2) := by decide +kernel
theorem dX5_ready_66 : decode cX5_ready 66 = .ok (.iload 4, 2) := by decide +kernel
theorem dX5_ready_68 : decode cX5_ready 68 = .ok (.invokevirtual 47, 3) := by decide +kernel
theorem dX5_ready_71 : decode cX5_ready 71 = .ok (.aload_n 0, 1) := by decide +kernel
theorem dX5_ready_72 : decode cX5_ready 72 = .ok (.invokevirtual 123, 3) := by decide +kernel
theorem dX5_ready_75 : decode cX5_ready 75 = .ok (.aload_n 0, 1) := by decide +kernel
theorem dX5_ready_76 : decode cX5_ready 76 = .ok (.getfield 7, 3) := by decide +kernel
theorem dX5_ready_79 : decode cX5_ready 79 = .ok (.iconst 2, 1) := by decide +kernel
theorem dX5_ready_80 : decode cX5_ready 80 = .ok (.iaload, 1) := by decide +kernel
theorem dX5_ready_81 : decode cX5_ready 81 = .ok (.ireturn, 1) := by decide +kernel
theorem dX5_end_0 : decode cX5_end 0 = .ok (.aload_n 0, 1) := by decide +kernel
theorem dX5_end_1 : decode cX5_end 1 = .ok (.aload_n 0, 1) := by decide +kernel
theorem dX5_end_2 : decode cX5_end 2 = .ok (.getfield 7, 3) := by decide +kernel
theorem dX5_end_5 : decode cX5_end 5 = .ok (.iconst 2, 1) := by decide +kernel
theorem dX5_end_6 : decode cX5_end 6 = .ok (.iaload, 1) := by decide +kernel
theorem dX5_end_7 : decode cX5_end 7 = .ok (.iconst (-1), 1) := by decide +kernel
theorem dX5_end_8 : decode cX5_end 8 = .ok (.if_icmp .ne 7, 3) := by decide +kernel
theorem dX5_end_11 : decode cX5_end 11 = .ok (.iconst 1, 1) := by decide +kernel
theorem dX5_end_12 : decode cX5_end 12 = .ok (.goto 4, 3) := by decide +kernel
theorem dX5_end_15 : decode cX5_end 15 = .ok (.iconst 0, 1) := by decide +kernel
theorem dX5_end_16 : decode cX5_end 16 = .ok (.putfield 28, 3) := by decide +kernel
theorem dX5_end_19 : decode cX5_end 19 = .ok (.aload_n 0, 1) := by decide +kernel
theorem dX5_end_20 : decode cX5_end 20 = .ok (.getfield 28, 3) := by decide +kernel
theorem dX5_end_23 : decode cX5_end 23 = .ok (.ifCond .le 5, 3) := by decide +kernel
theorem dX5_end_26 : decode cX5_end 26 = .ok (.iconst 0, 1) := by decide +kernel
theorem dX5_end_27 : decode cX5_end 27 = .ok (.ireturn, 1) := by decide +kernel
theorem dX5_end_28 : decode cX5_end 28 = .ok (.aload_n 0, 1) := by decide +kernel
theorem dX5_end_29 : decode cX5_end 29 = .ok (.invokevirtual 82, 3) := by decide +kernel
theorem dX5_end_32 : decode cX5_end 32 = .ok (.aload_n 0, 1) := by decide +kernel
theorem dX5_end_33 : decode cX5_end 33 = .ok (.invokevirtual 123, 3) := by decide +kernel
theorem dX5_end_36 : decode cX5_end 36 = .ok (.aload_n 0, 1) := by decide +kernel
theorem dX5_end_37 : decode cX5_end 37 = .ok (.getfield 7, 3) := by decide +kernel
theorem dX5_end_40 : decode cX5_end 40 = .ok (.iconst 2, 1) := by decide +kernel
theorem dX5_end_41 : decode cX5_end 41 = .ok (.iaload, 1) := by decide +kernel
theorem dX5_end_42 : decode cX5_end 42 = .ok (.ireturn, 1) := by decide +kernel
theorem dX5_canComeIn_0 : decode cX5_canComeIn 0 = .ok (.aload_n 0, 1) := by decide +kernel
theorem dX5_canComeIn_1 : decode cX5_canComeIn 1 = .ok (.getfield 7, 3) := by decide +kernel
theorem dX5_canComeIn_4 : decode cX5_canComeIn 4 = .ok (.iconst 2, 1) := by decide +kernel
theorem dX5_canComeIn_5 : decode cX5_canComeIn 5 = .ok (.iaload, 1) := by decide +kernel
theorem dX5_canComeIn_6 : decode cX5_canComeIn 6 = .ok (.iconst (-1), 1) := by decide +kernel
theorem dX5_canComeIn_7 : decode cX5_canComeIn 7 = .ok (.if_icmp .eq 26, 3) := by decide +kernel
theorem dX5_canComeIn_10 : decode cX5_canComeIn 10 = .ok (.aload_n 0, 1) := by decide +kernel
theorem dX5_canComeIn_11 : decode cX5_canComeIn 11 = .ok (.iload_n 1, 1) := by decide +kernel
theorem dX5_canComeIn_12 : decode cX5_canComeIn 12 = .ok (.bipush 6, 2) := by decide +kernel
theorem dX5_canComeIn_14 : decode cX5_canComeIn 14 = .ok (.invokevirtual 32, 3) := by decide +kernel
theorem dX5_canComeIn_17 : decode cX5_canComeIn 17 = .ok (.iconst 1, 1) := by decide +kernel
theorem dX5_canComeIn_18 : decode cX5_canComeIn 18 = .ok (.if_icmp .ne 15, 3) := by decide +kernel
theorem dX5_canComeIn_21 : decode cX5_canComeIn 21 = .ok (.aload_n 0, 1) := by decide +kernel
theorem dX5_canComeIn_22 : decode cX5_canComeIn 22 = .ok (.iload_n 1, 1) := by decide +kernel
theorem dX5_canComeIn_23 : decode cX5_canComeIn 23 = .ok (.invokevirtual 51, 3) := by decide +kernel
theorem dX5_canComeIn_26 : decode cX5_canComeIn 26 = .ok (.ifCond .ne 7, 3) := by decide +kernel
theorem dX5_canComeIn_29 : decode cX5_canComeIn 29 = .ok (.iconst 1, 1) := by decide +kernel
theorem dX5_canComeIn_30 : decode cX5_canComeIn 30 = .ok (.goto 4, 3) := by decide +kernel
theorem dX5_canComeIn_33 : decode cX5_canComeIn 33 = .ok (.iconst 0, 1) := by decide +kernel
theorem dX5_canComeIn_34 : decode cX5_canComeIn 34 = .ok (.ireturn, 1) := by decide +kernel
theorem dX5_comeInIt_0 : decode cX5_comeInIt 0 = .ok (.aload_n 0, 1) := by decide +kernel
theorem dX5_comeInIt_1 : decode cX5_comeInIt 1 = .ok (.iload_n 1, 1) := by decide +kernel
theorem dX5_comeInIt_2 : decode cX5_comeInIt 2 = .ok (.aload_n 0, 1) := by decide +kernel
theorem dX5_comeInIt_3 : decode cX5_comeInIt 3 = .ok (.getfield 7, 3) := by decide +kernel
theorem dX5_comeInIt_6 : decode cX5_comeInIt 6 = .ok (.iconst 2, 1) := by decide +kernel
theorem dX5_comeInIt_7 : decode cX5_comeInIt 7 = .ok (.iaload, 1) := by decide +kernel
theorem dX5_comeInIt_8 : decode cX5_comeInIt 8 = .ok (.invokevirtual 148, 3) := by decide +kernel
theorem dX5_comeInIt_11 : decode cX5_comeInIt 11 = .ok (.aload_n 0, 1) := by decide +kernel
theorem dX5_comeInIt_12 : decode cX5_comeInIt 12 = .ok (.iload_n 1, 1) := by decide +kernel
theorem dX5_comeInIt_13 : decode cX5_comeInIt 13 = .ok (.bipush 6, 2) := by decide +kernel
theorem dX5_comeInIt_15 : decode cX5_comeInIt 15 = .ok (.iconst 0, 1) := by decide +kernel
theorem dX5_comeInIt_16 : decode cX5_comeInIt 16 = .ok (.invokevirtual 47, 3) := by decide +kernel
theorem dX5_comeInIt_19 : decode cX5_comeInIt 19 = .ok (.aload_n 0, 1) := by decide +kernel
theorem dX5_comeInIt_20 : decode cX5_comeInIt 20 = .ok (.iload_n 1, 1) := by decide +kernel
theorem dX5_comeInIt_21 : decode cX5_comeInIt 21 = .ok (.iconst 1, 1) := by decide +kernel
theorem dX5_comeInIt_22 : decode cX5_comeInIt 22 = .ok (.invokevirtual 32, 3) := by decide +kernel
theorem dX5_comeInIt_25 : decode cX5_comeInIt 25 = .ok (.ireturn, 1) := by decide +kernel
theorem dX5_comeIn_0 : decode cX5_comeIn 0 = .ok (.aload_n 0, 1) := by decide +kernel
theorem dX5_comeIn_1 : decode cX5_comeIn 1 = .ok (.aload_n 0, 1) := by decide +kernel
theorem dX5_comeIn_2 : decode cX5_comeIn 2 = .ok (.iload_n 1, 1) := by decide +kernel
theorem dX5_comeIn_3 : decode cX5_comeIn 3 = .ok (.invokevirtual 126, 3) := by decide +kernel
theorem dX5_comeIn_6 : decode cX5_comeIn 6 = .ok (.ifCond .ne 7, 3) := by decide +kernel
theorem dX5_comeIn_9 : decode cX5_comeIn 9 = .ok (.iconst 1, 1) := by decide +kernel
theorem dX5_comeIn_10 : decode cX5_comeIn 10 = .ok (.goto 16, 3) := by decide +kernel
theorem dX5_comeIn_13 : decode cX5_comeIn 13 = .ok (.aload_n 0, 1) := by decide +kernel
theorem dX5_comeIn_14 : decode cX5_comeIn 14 = .ok (.iload_n 1, 1) := by decide +kernel
theorem dX5_comeIn_15 : decode cX5_comeIn 15 = .ok (.invokevirtual 151, 3) := by decide +kernel
theorem dX5_comeIn_18 : decode cX5_comeIn 18 = .ok (.ifCond .eq 7, 3) := by decide +kernel
theorem dX5_comeIn_21 : decode cX5_comeIn 21 = .ok (.iconst 0, 1) := by decide +kernel
theorem dX5_comeIn_22 : decode cX5_comeIn 22 = .ok (.goto 4, 3) := by decide +kernel
theorem dX5_comeIn_25 : decode cX5_comeIn 25 = .ok (.iconst 2, 1) := by decide +kernel
theorem dX5_comeIn_26 : decode cX5_comeIn 26 = .ok (.putfield 28, 3) := by decide +kernel
theorem dX5_comeIn_29 : decode cX5_comeIn 29 = .ok (.aload_n 0, 1) := by decide +kernel
theorem dX5_comeIn_30 : decode cX5_comeIn 30 = .ok (.getfield 28, 3) := by decide +kernel
theorem dX5_comeIn_33 : decode cX5_comeIn 33 = .ok (.ifCond .le 5, 3) := by decide +kernel
theorem dX5_comeIn_36 : decode cX5_comeIn 36 = .ok (.iconst 0, 1) := by decide +kernel
theorem dX5_comeIn_37 : decode cX5_comeIn 37 = .ok (.ireturn, 1) := by decide +kernel
theorem dX5_comeIn_38 : decode cX5_comeIn 38 = .ok (.aload_n 0, 1) := by decide +kernel
theorem dX5_comeIn_39 : decode cX5_comeIn 39 = .ok (.invokevirtual 82, 3) := by decide +kernel
theorem dX5_comeIn_42 : decode cX5_comeIn 42 = .ok (.aload_n 0, 1) := by decide +kernel
theorem dX5_comeIn_43 : decode cX5_comeIn 43 = .ok (.iload_n 1, 1) := by decide +kernel
theorem dX5_comeIn_44 : decode cX5_comeIn 44 = .ok (.invokevirtual 154, 3) := by decide +kernel
theorem dX5_comeIn_47 : decode cX5_comeIn 47 = .ok (.ireturn, 1) := by decide +kernel
theorem dX5_append_0 : decode cX5_append 0 = .ok (.aload_n 0, 1) := by decide +kernel
theorem dX5_append_1 : decode cX5_append 1 = .ok (.iload_n 1, 1) := by decide +kernel
theorem dX5_append_2 : decode cX5_append 2 = .ok (.bipush 33, 2) := by decide +kernel
theorem dX5_append_4 : decode cX5_append 4 = .ok (.bipush 126, 2) := by decide +kernel
theorem dX5_append_6 : decode cX5_append 6 = .ok (.invokestatic 85, 3) := by decide +kernel
theorem dX5_append_9 : decode cX5_append 9 = .ok (.ifCond .ne 7, 3) := by decide +kernel
theorem dX5_append_12 : decode cX5_append 12 = .ok (.iconst 1, 1) := by decide +kernel
theorem dX5_append_13 : decode cX5_append 13 = .ok (.goto 17, 3) := by decide +kernel
theorem dX5_append_16 : decode cX5_append 16 = .ok (.aload_n 0, 1) := by decide +kernel
theorem dX5_append_17 : decode cX5_append 17 = .ok (.getfield 157, 3) := by decide +kernel
theorem dX5_append_20 : decode cX5_append 20 = .ok (.bipush 60, 2) := by decide +kernel
theorem dX5_append_22 : decode cX5_append 22 = .ok (.if_icmp .ne 7, 3) := by decide +kernel
theorem dX5_append_25 : decode cX5_append 25 = .ok (.iconst 2, 1) := by decide +kernel
theorem dX5_append_26 : decode cX5_append 26 = .ok (.goto 4, 3) := by decide +kernel
theorem dX5_append_29 : decode cX5_append 29 = .ok (.iconst 0, 1) := by decide +kernel
theorem dX5_append_30 : decode cX5_append 30 = .ok (.putfield 28, 3) := by decide +kernel
theorem dX5_append_33 : decode cX5_append 33 = .ok (.aload_n 0, 1) := by decide +kernel
theorem dX5_append_34 : decode cX5_append 34 = .ok (.getfield 28, 3) := by decide +kernel
theorem dX5_append_37 : decode cX5_append 37 = .ok (.ifCond .le 5, 3) := by decide +kernel
theorem dX5_append_40 : decode cX5_append 40 = .ok (.iconst 0, 1) := by decide +kernel
theorem dX5_append_41 : decode cX5_append 41 = .ok (.ireturn, 1) := by decide +kernel
theorem dX5_append_42 : decode cX5_append 42 = .ok (.aload_n 0, 1) := by decide +kernel
theorem dX5_append_43 : decode cX5_append 43 = .ok (.getfield 19, 3) := by decide +kernel
theorem dX5_append_46 : decode cX5_append 46 = .ok (.aload_n 0, 1) := by decide +kernel
theorem dX5_append_47 : decode cX5_append 47 = .ok (.getfield 157, 3) := by decide +kernel
theorem dX5_append_50 : decode cX5_append 50 = .ok (.iload_n 1, 1) := by decide +kernel
theorem dX5_append_51 : decode cX5_append 51 = .ok (.iastore, 1) := by decide +kernel
theorem dX5_append_52 : decode cX5_append 52 = .ok (.aload_n 0, 1) := by decide +kernel
theorem dX5_append_53 : decode cX5_append 53 = .ok (.dup, 1) := by decide +kernel
theorem dX5_append_54 : decode cX5_append 54 = .ok (.getfield 157, 3) := by decide +kernel
theorem dX5_append_57 : decode cX5_append 57 = .ok (.iconst 1, 1) := by decide +kernel
theorem dX5_append_58 : decode cX5_append 58 = .ok (.iadd, 1) := by decide +kernel
theorem dX5_append_59 : decode cX5_append 59 = .ok (.putfield 157, 3) := by decide +kernel
theorem dX5_append_62 : decode cX5_append 62 = .ok (.aload_n 0, 1) := by decide +kernel
theorem dX5_append_63 : decode cX5_append 63 = .ok (.getfield 157, 3) := by decide +kernel
theorem dX5_append_66 : decode cX5_append 66 = .ok (.ireturn, 1) := by decide +kernel
theorem dX5_clearBuffer_0 : decode cX5_clearBuffer 0 = .ok (.aload_n 0, 1) := by decide +kernel
theorem dX5_clearBuffer_1 : decode cX5_clearBuffer 1 = .ok (.iconst 0, 1) := by decide +kernel
theorem dX5_clearBuffer_2 : decode cX5_clearBuffer 2 = .ok (.putfield 28, 3) := by decide +kernel
theorem dX5_clearBuffer_5 : decode cX5_clearBuffer 5 = .ok (.aload_n 0, 1) := by decide +kernel
theorem dX5_clearBuffer_6 : decode cX5_clearBuffer 6 = .ok (.getfield 157, 3) := by decide +kernel
theorem dX5_clearBuffer_9 : decode cX5_clearBuffer 9 = .ok (.istore_n 1, 1) := by decide +kernel
theorem dX5_clearBuffer_10 : decode cX5_clearBuffer 10 = .ok (.aload_n 0, 1) := by decide +kernel
theorem dX5_clearBuffer_11 : decode cX5_clearBuffer 11 = .ok (.iconst 0, 1) := by decide +kernel
theorem dX5_clearBuffer_12 : decode cX5_clearBuffer 12 = .ok (.putfield 157, 3) := by decide +kernel
theorem dX5_clearBuffer_15 : decode cX5_clearBuffer 15 = .ok (.iload_n 1, 1) := by decide +kernel
theorem dX5_clearBuffer_16 : decode cX5_clearBuffer 16 = .ok (.ireturn, 1) := by decide +kernel
theorem dX5_letter_0 : decode cX5_letter 0 = .ok (.aload_n 0, 1) := by decide +kernel
theorem dX5_letter_1 : decode cX5_letter 1 = .ok (.getfield 160, 3) := by decide +kernel
theorem dX5_letter_4 : decode cX5_letter 4 = .ok (.aload_n 0, 1) := by decide +kernel
theorem dX5_letter_5 : decode cX5_letter 5 = .ok (.getfield 157, 3) := by decide +kernel
theorem dX5_letter_8 : decode cX5_letter 8 = .ok (.if_icmp .ge 15, 3) := by decide +kernel
theorem dX5_letter_11 : decode cX5_letter 11 = .ok (.aload_n 0, 1) := by decide +kernel
theorem dX5_letter_12 : decode cX5_letter 12 = .ok (.getfield 19, 3) := by decide +kernel
theorem dX5_letter_15 : decode cX5_letter 15 = .ok (.aload_n 0, 1) := by decide +kernel
theorem dX5_letter_16 : decode cX5_letter 16 = .ok (.getfield 160, 3) := by decide +kernel
theorem dX5_letter_19 : decode cX5_letter 19 = .ok (.iaload, 1) := by decide +kernel
theorem dX5_letter_20 : decode cX5_letter 20 = .ok (.goto 4, 3) := by decide +kernel
theorem dX5_letter_23 : decode cX5_letter 23 = .ok (.iconst (-1), 1) := by decide +kernel
theorem dX5_letter_24 : decode cX5_letter 24 = .ok (.ireturn, 1) := by decide +kernel
theorem dX5_wants_0 : decode cX5_wants 0 = .ok (.aload_n 0, 1) := by decide +kernel
theorem dX5_wants_1 : decode cX5_wants 1 = .ok (.getfield 163, 3) := by decide +kernel
theorem dX5_wants_4 : decode cX5_wants 4 = .ok (.iconst (-1), 1) := by decide +kernel
theorem dX5_wants_5 : decode cX5_wants 5 = .ok (.if_icmp .ne 29, 3) := by decide +kernel
theorem dX5_wants_8 : decode cX5_wants 8 = .ok (.aload_n 0, 1) := by decide +kernel
theorem dX5_wants_9 : decode cX5_wants 9 = .ok (.iload_n 1, 1) := by decide +kernel
theorem dX5_wants_10 : decode cX5_wants 10 = .ok (.ifCond .eq 7, 3) := by decide +kernel
theorem dX5_wants_13 : decode cX5_wants 13 = .ok (.iconst (-1), 1) := by decide +kernel
theorem dX5_wants_14 : decode cX5_wants 14 = .ok (.goto 7, 3) := by decide +kernel
theorem dX5_wants_17 : decode cX5_wants 17 = .ok (.aload_n 0, 1) := by decide +kernel
theorem dX5_wants_18 : decode cX5_wants 18 = .ok (.getfield 160, 3) := by decide +kernel
theorem dX5_wants_21 : decode cX5_wants 21 = .ok (.putfield 163, 3) := by decide +kernel
theorem dX5_wants_24 : decode cX5_wants 24 = .ok (.aload_n 0, 1) := by decide +kernel
theorem dX5_wants_25 : decode cX5_wants 25 = .ok (.dup, 1) := by decide +kernel
theorem dX5_wants_26 : decode cX5_wants 26 = .ok (.getfield 160, 3) := by decide +kernel
theorem dX5_wants_29 : decode cX5_wants 29 = .ok (.iconst 1, 1) := by decide +kernel
theorem dX5_wants_30 : decode cX5_wants 30 = .ok (.iadd, 1) := by decide +kernel
theorem dX5_wants_31 : decode cX5_wants 31 = .ok (.putfield 160, 3) := by decide +kernel
theorem dX5_wants_34 : decode cX5_wants 34 = .ok (.return_, 1) := by decide +kernel
theorem dX5_digit_0 : decode cX5_digit 0 = .ok (.aload_n 0, 1) := by decide +kernel
theorem dX5_digit_1 : decode cX5_digit 1 = .ok (.invokevirtual 166, 3) := by decide +kernel
theorem dX5_digit_4 : decode cX5_digit 4 = .ok (.bipush 48, 2) := by decide +kernel
theorem dX5_digit_6 : decode cX5_digit 6 = .ok (.isub, 1) := by decide +kernel
theorem dX5_digit_7 : decode cX5_digit 7 = .ok (.istore_n 3, 1) := by decide +kernel
theorem dX5_digit_8 : decode cX5_digit 8 = .ok (.aload_n 0, 1) := by decide +kernel
theorem dX5_digit_9 : decode cX5_digit 9 = .ok (.iload_n 3, 1) := by decide +kernel
theorem dX5_digit_10 : decode cX5_digit 10 = .ok (.iload_n 1, 1) := by decide +kernel
theorem dX5_digit_11 : decode cX5_digit 11 = .ok (.iload_n 2, 1) := by decide +kernel
theorem dX5_digit_12 : decode cX5_digit 12 = .ok (.invokestatic 85, 3) := by decide +kernel
theorem dX5_digit_15 : decode cX5_digit 15 = .ok (.invokevirtual 170, 3) := by decide +kernel
theorem dX5_digit_18 : decode cX5_digit 18 = .ok (.iload_n 3, 1) := by decide +kernel
theorem dX5_digit_19 : decode cX5_digit 19 = .ok (.ireturn, 1) := by decide +kernel
theorem dX5_readOrder_0 : decode cX5_readOrder 0 = .ok (.iconst 4, 1) := by decide +kernel
theorem dX5_readOrder_1 : decode cX5_readOrder 1 = .ok (.aload_n 0, 1) := by decide +kernel
theorem dX5_readOrder_2 : decode cX5_readOrder 2 = .ok (.getfield 174, 3) := by decide +kernel
theorem dX5_readOrder_5 : decode cX5_readOrder 5 = .ok (.imul, 1) := by decide +kernel
theorem dX5_readOrder_6 : decode cX5_readOrder 6 = .ok (.istore_n 1, 1) := by decide +kernel
theorem dX5_readOrder_7 : decode cX5_readOrder 7 = .ok (.aload_n 0, 1) := by decide +kernel
theorem dX5_readOrder_8 : decode cX5_readOrder 8 = .ok (.invokevirtual 166, 3) := by decide +kernel
theorem dX5_readOrder_11 : decode cX5_readOrder 11 = .ok (.istore_n 2, 1) := by decide +kernel
theorem dX5_readOrder_12 : decode cX5_readOrder 12 = .ok (.aload_n 0, 1) := by decide +kernel
theorem dX5_readOrder_13 : decode cX5_readOrder 13 = .ok (.getfield 25, 3) := by decide +kernel
theorem dX5_readOrder_16 : decode cX5_readOrder 16 = .ok (.iload_n 1, 1) := by decide +kernel
theorem dX5_readOrder_17 : decode cX5_readOrder 17 = .ok (.iload_n 2, 1) := by decide +kernel
theorem dX5_readOrder_18 : decode cX5_readOrder 18 = .ok (.iastore, 1) := by decide +kernel
theorem dX5_readOrder_19 : decode cX5_readOrder 19 = .ok (.iload_n 2, 1) := by decide +kernel
theorem dX5_readOrder_20 : decode cX5_readOrder 20 = .ok (.bipush 115, 2) := by decide +kernel
theorem dX5_readOrder_22 : decode cX5_readOrder 22 = .ok (.if_icmp .eq 27, 3) := by decide +kernel
theorem dX5_readOrder_25 : decode cX5_readOrder 25 = .ok (.iload_n 2, 1) := by decide +kernel
theorem dX5_readOrder_26 : decode cX5_readOrder 26 = .ok (.bipush 109, 2) := by decide +kernel
theorem dX5_readOrder_28 : decode cX5_readOrder 28 = .ok (.if_icmp .eq 21, 3) := by decide +kernel
theorem dX5_readOrder_31 : decode cX5_readOrder 31 = .ok (.iload_n 2, 1) := by decide +kernel
theorem dX5_readOrder_32 : decode cX5_readOrder 32 = .ok (.bipush 104, 2) := by decide +kernel
theorem dX5_readOrder_34 : decode cX5_readOrder 34 = .ok (.if_icmp .eq 15, 3) := by decide +kernel
theorem dX5_readOrder_37 : decode cX5_readOrder 37 = .ok (.iload_n 2, 1) := by decide +kernel
theorem dX5_readOrder_38 : decode cX5_readOrder 38 = .ok (.bipush 99, 2) := by decide +kernel
theorem dX5_readOrder_40 : decode cX5_readOrder 40 = .ok (.if_icmp .eq 9, 3) := by decide +kernel
theorem dX5_readOrder_43 : decode cX5_readOrder 43 = .ok (.iload_n 2, 1) := by decide +kernel
theorem dX5_readOrder_44 : decode cX5_readOrder 44 = .ok (.bipush 105, 2) := by decide +kernel
theorem dX5_readOrder_46 : decode cX5_readOrder 46 = .ok (.if_icmp .ne 7, 3) := by decide +kernel
theorem dX5_readOrder_49 : decode cX5_readOrder 49 = .ok (.iconst 1, 1) := by decide +kernel
theorem dX5_readOrder_50 : decode cX5_readOrder 50 = .ok (.goto 4, 3) := by decide +kernel
theorem dX5_readOrder_53 : decode cX5_readOrder 53 = .ok (.iconst 0, 1) := by decide +kernel
theorem dX5_readOrder_54 : decode cX5_readOrder 54 = .ok (.istore_n 3, 1) := by decide +kernel
theorem dX5_readOrder_55 : decode cX5_readOrder 55 = .ok (.aload_n 0, 1) := by decide +kernel
theorem dX5_readOrder_56 : decode cX5_readOrder 56 = .ok (.iload_n 3, 1) := by decide +kernel
theorem dX5_readOrder_57 : decode cX5_readOrder 57 = .ok (.ifCond .ne 15, 3) := by decide +kernel
theorem dX5_readOrder_60 : decode cX5_readOrder 60 = .ok (.iload_n 2, 1) := by decide +kernel
theorem dX5_readOrder_61 : decode cX5_readOrder 61 = .ok (.bipush 119, 2) := by decide +kernel
theorem dX5_readOrder_63 : decode cX5_readOrder 63 = .ok (.if_icmp .eq 9, 3) := by decide +kernel
theorem dX5_readOrder_66 : decode cX5_readOrder 66 = .ok (.iload_n 2, 1) := by decide +kernel
theorem dX5_readOrder_67 : decode cX5_readOrder 67 = .ok (.bipush 101, 2) := by decide +kernel
theorem dX5_readOrder_69 : decode cX5_readOrder 69 = .ok (.if_icmp .ne 7, 3) := by decide +kernel
theorem dX5_readOrder_72 : decode cX5_readOrder 72 = .ok (.iconst 1, 1) := by decide +kernel
theorem dX5_readOrder_73 : decode cX5_readOrder 73 = .ok (.goto 4, 3) := by decide +kernel
theorem dX5_readOrder_76 : decode cX5_readOrder 76 = .ok (.iconst 0, 1) := by decide +kernel
theorem dX5_readOrder_77 : decode cX5_readOrder 77 = .ok (.invokevirtual 170, 3) := by decide +kernel
theorem dX5_readOrder_80 : decode cX5_readOrder 80 = .ok (.iload_n 3, 1) := by decide +kernel
theorem dX5_readOrder_81 : decode cX5_readOrder 81 = .ok (.ifCond .eq 18, 3) := by decide +kernel
theorem dX5_readOrder_84 : decode cX5_readOrder 84 = .ok (.aload_n 0, 1) := by decide +kernel
theorem dX5_readOrder_85 : decode cX5_readOrder 85 = .ok (.getfield 25, 3) := by decide +kernel
theorem dX5_readOrder_88 : decode cX5_readOrder 88 = .ok (.iload_n 1, 1) := by decide +kernel
theorem dX5_readOrder_89 : decode cX5_readOrder 89 = .ok (.iconst 1, 1) := by decide +kernel
theorem dX5_readOrder_90 : decode cX5_readOrder 90 = .ok (.iadd, 1) := by decide +kernel
theorem dX5_readOrder_91 : decode cX5_readOrder 91 = .ok (.aload_n 0, 1) := by decide +kernel
theorem dX5_readOrder_92 : decode cX5_readOrder 92 = .ok (.iconst 0, 1) := by decide +kernel
theorem dX5_readOrder_93 : decode cX5_readOrder 93 = .ok (.bipush 9, 2) := by decide +kernel
theorem dX5_readOrder_95 : decode cX5_readOrder 95 = .ok (.invokevirtual 177, 3) := by decide +kernel
theorem dX5_readOrder_98 : decode cX5_readOrder 98 = .ok (.iastore, 1) := by decide +kernel
theorem dX5_readOrder_99 : decode cX5_readOrder 99 = .ok (.iload_n 2, 1) := by decide +kernel
theorem dX5_readOrder_100 : decode cX5_readOrder 100 = .ok (.bipush 99, 2) := by decide +kernel
theorem dX5_readOrder_102 : decode cX5_readOrder 102 = .ok (.if_icmp .ne 31, 3) := by decide +kernel
theorem dX5_readOrder_105 : decode cX5_readOrder 105 = .ok (.aload_n 0, 1) := by decide +kernel
theorem dX5_readOrder_106 : decode cX5_readOrder 106 = .ok (.getfield 25, 3) := by decide +kernel
theorem dX5_readOrder_109 : decode cX5_readOrder 109 = .ok (.iload_n 1, 1) := by decide +kernel
theorem dX5_readOrder_110 : decode cX5_readOrder 110 = .ok (.iconst 2, 1) := by decide +kernel
theorem dX5_readOrder_111 : decode cX5_readOrder 111 = .ok (.iadd, 1) := by decide +kernel
theorem dX5_readOrder_112 : decode cX5_readOrder 112 = .ok (.aload_n 0, 1) := by decide +kernel
theorem dX5_readOrder_113 : decode cX5_readOrder 113 = .ok (.iconst 0, 1) := by decide +kernel
theorem dX5_readOrder_114 : decode cX5_readOrder 114 = .ok (.iconst 3, 1) := by decide +kernel
theorem dX5_readOrder_115 : decode cX5_readOrder 115 = .ok (.invokevirtual 177, 3) := by decide +kernel
theorem dX5_readOrder_118 : decode cX5_readOrder 118 = .ok (.iastore, 1) := by decide +kernel
theorem dX5_readOrder_119 : decode cX5_readOrder 119 = .ok (.aload_n 0, 1) := by decide +kernel
theorem dX5_readOrder_120 : decode cX5_readOrder 120 = .ok (.getfield 25, 3) := by decide +kernel
theorem dX5_readOrder_123 : decode cX5_readOrder 123 = .ok (.iload_n 1, 1) := by decide +kernel
theorem dX5_readOrder_124 : decode cX5_readOrder 124 = .ok (.iconst 3, 1) := by decide +kernel
theorem dX5_readOrder_125 : decode cX5_readOrder 125 = .ok (.iadd, 1) := by decide +kernel
theorem dX5_readOrder_126 : decode cX5_readOrder 126 = .ok (.aload_n 0, 1) := by decide +kernel
theorem dX5_readOrder_127 : decode cX5_readOrder 127 = .ok (.iconst 1, 1) := by decide +kernel
theorem dX5_readOrder_128 : decode cX5_readOrder 128 = .ok (.iconst 5, 1) := by decide +kernel
theorem dX5_readOrder_129 : decode cX5_readOrder 129 = .ok (.invokevirtual 177, 3) := by decide +kernel
theorem dX5_readOrder_132 : decode cX5_readOrder 132 = .ok (.iastore, 1) := by decide +kernel
theorem dX5_readOrder_133 : decode cX5_readOrder 133 = .ok (.aload_n 0, 1) := by decide +kernel
theorem dX5_readOrder_134 : decode cX5_readOrder 134 = .ok (.dup, 1) := by decide +kernel
theorem dX5_readOrder_135 : decode cX5_readOrder 135 = .ok (.getfield 174, 3) := by decide +kernel
theorem dX5_readOrder_138 : decode cX5_readOrder 138 = .ok (.iconst 1, 1) := by decide +kernel
theorem dX5_readOrder_139 : decode cX5_readOrder 139 = .ok (.iadd, 1) := by decide +kernel
theorem dX5_readOrder_140 : decode cX5_readOrder 140 = .ok (.putfield 174, 3) := by decide +kernel
theorem dX5_readOrder_143 : decode cX5_readOrder 143 = .ok (.return_, 1) := by decide +kernel
theorem dX5_readBuffer_0 : decode cX5_readBuffer 0 = .ok (.aload_n 0, 1) := by decide +kernel
theorem dX5_readBuffer_1 : decode cX5_readBuffer 1 = .ok (.iconst 0, 1) := by decide +kernel
theorem dX5_readBuffer_2 : decode cX5_readBuffer 2 = .ok (.putfield 174, 3) := by decide +kernel
theorem dX5_readBuffer_5 : decode cX5_readBuffer 5 = .ok (.aload_n 0, 1) := by decide +kernel
theorem dX5_readBuffer_6 : decode cX5_readBuffer 6 = .ok (.iconst 0, 1) := by decide +kernel
theorem dX5_readBuffer_7 : decode cX5_readBuffer 7 = .ok (.putfield 160, 3) := by decide +kernel
theorem dX5_readBuffer_10 : decode cX5_readBuffer 10 = .ok (.aload_n 0, 1) := by decide +kernel
theorem dX5_readBuffer_11 : decode cX5_readBuffer 11 = .ok (.iconst (-1), 1) := by decide +kernel
theorem dX5_readBuffer_12 : decode cX5_readBuffer 12 = .ok (.putfield 163, 3) := by decide +kernel
theorem dX5_readBuffer_15 : decode cX5_readBuffer 15 = .ok (.iconst 1, 1) := by decide +kernel
theorem dX5_readBuffer_16 : decode cX5_readBuffer 16 = .ok (.istore_n 1, 1) := by decide +kernel
theorem dX5_readBuffer_17 : decode cX5_readBuffer 17 = .ok (.iload_n 1, 1) := by decide +kernel
theorem dX5_readBuffer_18 : decode cX5_readBuffer 18 = .ok (.ifCond .eq 71, 3) := by decide +kernel
theorem dX5_readBuffer_21 : decode cX5_readBuffer 21 = .ok (.aload_n 0, 1) := by decide +kernel
theorem dX5_readBuffer_22 : decode cX5_readBuffer 22 = .ok (.invokevirtual 180, 3) := by decide +kernel
theorem dX5_readBuffer_25 : decode cX5_readBuffer 25 = .ok (.aload_n 0, 1) := by decide +kernel
theorem dX5_readBuffer_26 : decode cX5_readBuffer 26 = .ok (.getfield 163, 3) := by decide +kernel
theorem dX5_readBuffer_29 : decode cX5_readBuffer 29 = .ok (.iconst (-1), 1) := by decide +kernel
theorem dX5_readBuffer_30 : decode cX5_readBuffer 30 = .ok (.if_icmp .ne 18, 3) := by decide +kernel
theorem dX5_readBuffer_33 : decode cX5_readBuffer 33 = .ok (.aload_n 0, 1) := by decide +kernel
theorem dX5_readBuffer_34 : decode cX5_readBuffer 34 = .ok (.getfield 160, 3) := by decide +kernel
theorem dX5_readBuffer_37 : decode cX5_readBuffer 37 = .ok (.aload_n 0, 1) := by decide +kernel
theorem dX5_readBuffer_38 : decode cX5_readBuffer 38 = .ok (.getfield 157, 3) := by decide +kernel
theorem dX5_readBuffer_41 : decode cX5_readBuffer 41 = .ok (.if_icmp .ge 7, 3) := by decide +kernel
theorem dX5_readBuffer_44 : decode cX5_readBuffer 44 = .ok (.iconst 1, 1) := by decide +kernel
theorem dX5_readBuffer_45 : decode cX5_readBuffer 45 = .ok (.goto 4, 3) := by decide +kernel
theorem dX5_readBuffer_48 : decode cX5_readBuffer 48 = .ok (.iconst 0, 1) := by decide +kernel
theorem dX5_readBuffer_49 : decode cX5_readBuffer 49 = .ok (.istore_n 1, 1) := by decide +kernel
theorem dX5_readBuffer_50 : decode cX5_readBuffer 50 = .ok (.iload_n 1, 1) := by decide +kernel
theorem dX5_readBuffer_51 : decode cX5_readBuffer 51 = .ok (.ifCond .eq (-34), 3) := by decide +kernel
theorem dX5_readBuffer_54 : decode cX5_readBuffer 54 = .ok (.aload_n 0, 1) := by decide +kernel
theorem dX5_readBuffer_55 : decode cX5_readBuffer 55 = .ok (.aload_n 0, 1) := by decide +kernel
theorem dX5_readBuffer_56 : decode cX5_readBuffer 56 = .ok (.invokevirtual 166, 3) := by decide +kernel
theorem dX5_readBuffer_59 : decode cX5_readBuffer 59 = .ok (.bipush 59, 2) := by decide +kernel
theorem dX5_readBuffer_61 : decode cX5_readBuffer 61 = .ok (.if_icmp .ne 7, 3) := by decide +kernel
theorem dX5_readBuffer_64 : decode cX5_readBuffer 64 = .ok (.iconst 1, 1) := by decide +kernel
theorem dX5_readBuffer_65 : decode cX5_readBuffer 65 = .ok (.goto 4, 3) := by decide +kernel
theorem dX5_readBuffer_68 : decode cX5_readBuffer 68 = .ok (.iconst 0, 1) := by decide +kernel
theorem dX5_readBuffer_69 : decode cX5_readBuffer 69 = .ok (.invokevirtual 170, 3) := by decide +kernel
theorem dX5_readBuffer_72 : decode cX5_readBuffer 72 = .ok (.aload_n 0, 1) := by decide +kernel
theorem dX5_readBuffer_73 : decode cX5_readBuffer 73 = .ok (.getfield 163, 3) := by decide +kernel
theorem dX5_readBuffer_76 : decode cX5_readBuffer 76 = .ok (.iconst (-1), 1) := by decide +kernel
theorem dX5_readBuffer_77 : decode cX5_readBuffer 77 = .ok (.if_icmp .ne 7, 3) := by decide +kernel
theorem dX5_readBuffer_80 : decode cX5_readBuffer 80 = .ok (.iconst 1, 1) := by decide +kernel
theorem dX5_readBuffer_81 : decode cX5_readBuffer 81 = .ok (.goto 4, 3) := by decide +kernel
theorem dX5_readBuffer_84 : decode cX5_readBuffer 84 = .ok (.iconst 0, 1) := by decide +kernel
theorem dX5_readBuffer_85 : decode cX5_readBuffer 85 = .ok (.istore_n 1, 1) := by decide +kernel
theorem dX5_readBuffer_86 : decode cX5_readBuffer 86 = .ok (.goto (-69), 3) := by decide +kernel
theorem dX5_readBuffer_89 : decode cX5_readBuffer 89 = .ok (.aload_n 0, 1) := by decide +kernel
theorem dX5_readBuffer_90 : decode cX5_readBuffer 90 = .ok (.getfield 163, 3) := by decide +kernel
theorem dX5_readBuffer_93 : decode cX5_readBuffer 93 = .ok (.ireturn, 1) := by decide +kernel
theorem dX5_firstError_0 : decode cX5_firstError 0 = .ok (.aload_n 0, 1) := by decide +kernel
theorem dX5_firstError_1 : decode cX5_firstError 1 = .ok (.iconst 0, 1) := by decide +kernel
theorem dX5_firstError_2 : decode cX5_firstError 2 = .ok (.putfield 28, 3) := by decide +kernel
theorem dX5_firstError_5 : decode cX5_firstError 5 = .ok (.aload_n 0, 1) := by decide +kernel
theorem dX5_firstError_6 : decode cX5_firstError 6 = .ok (.invokevirtual 183, 3) := by decide +kernel
theorem dX5_firstError_9 : decode cX5_firstError 9 = .ok (.istore_n 1, 1) := by decide +kernel
theorem dX5_firstError_10 : decode cX5_firstError 10 = .ok (.iload_n 1, 1) := by decide +kernel
theorem dX5_firstError_11 : decode cX5_firstError 11 = .ok (.iconst (-1), 1) := by decide +kernel
theorem dX5_firstError_12 : decode cX5_firstError 12 = .ok (.if_icmp .ne 10, 3) := by decide +kernel
theorem dX5_firstError_15 : decode cX5_firstError 15 = .ok (.aload_n 0, 1) := by decide +kernel
theorem dX5_firstError_16 : decode cX5_firstError 16 = .ok (.getfield 157, 3) := by decide +kernel
theorem dX5_firstError_19 : decode cX5_firstError 19 = .ok (.goto 4, 3) := by decide +kernel
theorem dX5_firstError_22 : decode cX5_firstError 22 = .ok (.iload_n 1, 1) := by decide +kernel
theorem dX5_firstError_23 : decode cX5_firstError 23 = .ok (.ireturn, 1) := by decide +kernel
theorem dX5_acts_0 : decode cX5_acts 0 = .ok (.iload_n 1, 1) := by decide +kernel
theorem dX5_acts_1 : decode cX5_acts 1 = .ok (.iconst 1, 1) := by decide +kernel
theorem dX5_acts_2 : decode cX5_acts 2 = .ok (.if_icmp .eq 11, 3) := by decide +kernel
theorem dX5_acts_5 : decode cX5_acts 5 = .ok (.aload_n 0, 1) := by decide +kernel
theorem dX5_acts_6 : decode cX5_acts 6 = .ok (.iload_n 2, 1) := by decide +kernel
theorem dX5_acts_7 : decode cX5_acts 7 = .ok (.invokevirtual 126, 3) := by decide +kernel
theorem dX5_acts_10 : decode cX5_acts 10 = .ok (.ifCond .eq 16, 3) := by decide +kernel
theorem dX5_acts_13 : decode cX5_acts 13 = .ok (.aload_n 0, 1) := by decide +kernel
theorem dX5_acts_14 : decode cX5_acts 14 = .ok (.iload_n 1, 1) := by decide +kernel
theorem dX5_acts_15 : decode cX5_acts 15 = .ok (.iload_n 2, 1) := by decide +kernel
theorem dX5_acts_16 : decode cX5_acts 16 = .ok (.invokevirtual 129, 3) := by decide +kernel
theorem dX5_acts_19 : decode cX5_acts 19 = .ok (.ifCond .eq 7, 3) := by decide +kernel
theorem dX5_acts_22 : decode cX5_acts 22 = .ok (.iconst 1, 1) := by decide +kernel
theorem dX5_acts_23 : decode cX5_acts 23 = .ok (.goto 4, 3) := by decide +kernel
theorem dX5_acts_26 : decode cX5_acts 26 = .ok (.iconst 0, 1) := by decide +kernel
theorem dX5_acts_27 : decode cX5_acts 27 = .ok (.istore 5, 2) := by decide +kernel
theorem dX5_acts_29 : decode cX5_acts 29 = .ok (.iload 5, 2) := by decide +kernel
theorem dX5_acts_31 : decode cX5_acts 31 = .ok (.ifCond .eq 13, 3) := by decide +kernel
theorem dX5_acts_34 : decode cX5_acts 34 = .ok (.aload_n 0, 1) := by decide +kernel
theorem dX5_acts_35 : decode cX5_acts 35 = .ok (.iload_n 1, 1) := by decide +kernel
theorem dX5_acts_36 : decode cX5_acts 36 = .ok (.iload_n 2, 1) := by decide +kernel
theorem dX5_acts_37 : decode cX5_acts 37 = .ok (.iload_n 3, 1) := by decide +kernel
theorem dX5_acts_38 : decode cX5_acts 38 = .ok (.iload 4, 2) := by decide +kernel
theorem dX5_acts_40 : decode cX5_acts 40 = .ok (.invokevirtual 135, 3) := by decide +kernel
theorem dX5_acts_43 : decode cX5_acts 43 = .ok (.pop, 1) := by decide +kernel
theorem dX5_acts_44 : decode cX5_acts 44 = .ok (.iload 5, 2) := by decide +kernel
theorem dX5_acts_46 : decode cX5_acts 46 = .ok (.ireturn, 1) := by decide +kernel
theorem dX5_ends_0 : decode cX5_ends 0 = .ok (.aload_n 0, 1) := by decide +kernel
theorem dX5_ends_1 : decode cX5_ends 1 = .ok (.getfield 7, 3) := by decide +kernel
theorem dX5_ends_4 : decode cX5_ends 4 = .ok (.iconst 2, 1) := by decide +kernel
theorem dX5_ends_5 : decode cX5_ends 5 = .ok (.iaload, 1) := by decide +kernel
theorem dX5_ends_6 : decode cX5_ends 6 = .ok (.iconst (-1), 1) := by decide +kernel
theorem dX5_ends_7 : decode cX5_ends 7 = .ok (.if_icmp .eq 7, 3) := by decide +kernel
theorem dX5_ends_10 : decode cX5_ends 10 = .ok (.iconst 1, 1) := by decide +kernel
theorem dX5_ends_11 : decode cX5_ends 11 = .ok (.goto 4, 3) := by decide +kernel
theorem dX5_ends_14 : decode cX5_ends 14 = .ok (.iconst 0, 1) := by decide +kernel
theorem dX5_ends_15 : decode cX5_ends 15 = .ok (.istore_n 2, 1) := by decide +kernel
theorem dX5_ends_16 : decode cX5_ends 16 = .ok (.iload_n 2, 1) := by decide +kernel
theorem dX5_ends_17 : decode cX5_ends 17 = .ok (.ifCond .eq 14, 3) := by decide +kernel
theorem dX5_ends_20 : decode cX5_ends 20 = .ok (.iload_n 1, 1) := by decide +kernel
theorem dX5_ends_21 : decode cX5_ends 21 = .ok (.ifCond .eq 10, 3) := by decide +kernel
theorem dX5_ends_24 : decode cX5_ends 24 = .ok (.aload_n 0, 1) := by decide +kernel
theorem dX5_ends_25 : decode cX5_ends 25 = .ok (.invokevirtual 142, 3) := by decide +kernel
theorem dX5_ends_28 : decode cX5_ends 28 = .ok (.goto 11, 3) := by decide +kernel
theorem dX5_ends_31 : decode cX5_ends 31 = .ok (.iload_n 2, 1) := by decide +kernel
theorem dX5_ends_32 : decode cX5_ends 32 = .ok (.ifCond .eq 7, 3) := by decide +kernel
theorem dX5_ends_35 : decode cX5_ends 35 = .ok (.aload_n 0, 1) := by decide +kernel
theorem dX5_ends_36 : decode cX5_ends 36 = .ok (.invokevirtual 123, 3) := by decide +kernel
theorem dX5_ends_39 : decode cX5_ends 39 = .ok (.iload_n 2, 1) := by decide +kernel
theorem dX5_ends_40 : decode cX5_ends 40 = .ok (.ireturn, 1) := by decide +kernel
theorem dX5_comesIn_0 : decode cX5_comesIn 0 = .ok (.aload_n 0, 1) := by decide +kernel
theorem dX5_comesIn_1 : decode cX5_comesIn 1 = .ok (.iload_n 1, 1) := by decide +kernel
theorem dX5_comesIn_2 : decode cX5_comesIn 2 = .ok (.invokevirtual 126, 3) := by decide +kernel
theorem dX5_comesIn_5 : decode cX5_comesIn 5 = .ok (.ifCond .eq 15, 3) := by decide +kernel
theorem dX5_comesIn_8 : decode cX5_comesIn 8 = .ok (.aload_n 0, 1) := by decide +kernel
theorem dX5_comesIn_9 : decode cX5_comesIn 9 = .ok (.iload_n 1, 1) := by decide +kernel
theorem dX5_comesIn_10 : decode cX5_comesIn 10 = .ok (.invokevirtual 151, 3) := by decide +kernel
theorem dX5_comesIn_13 : decode cX5_comesIn 13 = .ok (.ifCond .eq 7, 3) := by decide +kernel
theorem dX5_comesIn_16 : decode cX5_comesIn 16 = .ok (.iconst 1, 1) := by decide +kernel
theorem dX5_comesIn_17 : decode cX5_comesIn 17 = .ok (.goto 4, 3) := by decide +kernel
theorem dX5_comesIn_20 : decode cX5_comesIn 20 = .ok (.iconst 0, 1) := by decide +kernel
theorem dX5_comesIn_21 : decode cX5_comesIn 21 = .ok (.istore_n 2, 1) := by decide +kernel
theorem dX5_comesIn_22 : decode cX5_comesIn 22 = .ok (.iload_n 2, 1) := by decide +kernel
theorem dX5_comesIn_23 : decode cX5_comesIn 23 = .ok (.ifCond .eq 9, 3) := by decide +kernel
theorem dX5_comesIn_26 : decode cX5_comesIn 26 = .ok (.aload_n 0, 1) := by decide +kernel
theorem dX5_comesIn_27 : decode cX5_comesIn 27 = .ok (.iload_n 1, 1) := by decide +kernel
theorem dX5_comesIn_28 : decode cX5_comesIn 28 = .ok (.invokevirtual 154, 3) := by decide +kernel
theorem dX5_comesIn_31 : decode cX5_comesIn 31 = .ok (.pop, 1) := by decide +kernel
theorem dX5_comesIn_32 : decode cX5_comesIn 32 = .ok (.iload_n 2, 1) := by decide +kernel
theorem dX5_comesIn_33 : decode cX5_comesIn 33 = .ok (.ireturn, 1) := by decide +kernel
theorem dX5_does_0 : decode cX5_does 0 = .ok (.aload_n 0, 1) := by decide +kernel
theorem dX5_does_1 : decode cX5_does 1 = .ok (.getfield 25, 3) := by decide +kernel
theorem dX5_does_4 : decode cX5_does 4 = .ok (.iconst 4, 1) := by decide +kernel
theorem dX5_does_5 : decode cX5_does 5 = .ok (.iload_n 1, 1) := by decide +kernel
theorem dX5_does_6 : decode cX5_does 6 = .ok (.imul, 1) := by decide +kernel
theorem dX5_does_7 : decode cX5_does 7 = .ok (.iconst 1, 1) := by decide +kernel
theorem dX5_does_8 : decode cX5_does 8 = .ok (.iadd, 1) := by decide +kernel
theorem dX5_does_9 : decode cX5_does 9 = .ok (.iaload, 1) := by decide +kernel
theorem dX5_does_10 : decode cX5_does 10 = .ok (.istore_n 2, 1) := by decide +kernel
theorem dX5_does_11 : decode cX5_does 11 = .ok (.aload_n 0, 1) := by decide +kernel
theorem dX5_does_12 : decode cX5_does 12 = .ok (.getfield 25, 3) := by decide +kernel
theorem dX5_does_15 : decode cX5_does 15 = .ok (.iconst 4, 1) := by decide +kernel
theorem dX5_does_16 : decode cX5_does 16 = .ok (.iload_n 1, 1) := by decide +kernel
theorem dX5_does_17 : decode cX5_does 17 = .ok (.imul, 1) := by decide +kernel
theorem dX5_does_18 : decode cX5_does 18 = .ok (.iaload, 1) := by decide +kernel
theorem dX5_does_19 : decode cX5_does 19 = .ok (.lookupswitch 123 #[(99, 84), (101, 117), (104, 75), (109, 66), (115, 57), (119, 111)], 57) := by decide +kernel
theorem dX5_does_76 : decode cX5_does 76 = .ok (.aload_n 0, 1) := by decide +kernel
theorem dX5_does_77 : decode cX5_does 77 = .ok (.iconst 0, 1) := by decide +kernel
theorem dX5_does_78 : decode cX5_does 78 = .ok (.iload_n 2, 1) := by decide +kernel
theorem dX5_does_79 : decode cX5_does 79 = .ok (.iconst 0, 1) := by decide +kernel
theorem dX5_does_80 : decode cX5_does 80 = .ok (.iconst 0, 1) := by decide +kernel
theorem dX5_does_81 : decode cX5_does 81 = .ok (.invokevirtual 186, 3) := by decide +kernel
theorem dX5_does_84 : decode cX5_does 84 = .ok (.ireturn, 1) := by decide +kernel
theorem dX5_does_85 : decode cX5_does 85 = .ok (.aload_n 0, 1) := by decide +kernel
theorem dX5_does_86 : decode cX5_does 86 = .ok (.iconst 1, 1) := by decide +kernel
theorem dX5_does_87 : decode cX5_does 87 = .ok (.iload_n 2, 1) := by decide +kernel
theorem dX5_does_88 : decode cX5_does 88 = .ok (.iconst 0, 1) := by decide +kernel
theorem dX5_does_89 : decode cX5_does 89 = .ok (.iconst 0, 1) := by decide +kernel
theorem dX5_does_90 : decode cX5_does 90 = .ok (.invokevirtual 186, 3) := by decide +kernel
theorem dX5_does_93 : decode cX5_does 93 = .ok (.ireturn, 1) := by decide +kernel
theorem dX5_does_94 : decode cX5_does 94 = .ok (.aload_n 0, 1) := by decide +kernel
theorem dX5_does_95 : decode cX5_does 95 = .ok (.iconst 2, 1) := by decide +kernel
theorem dX5_does_96 : decode cX5_does 96 = .ok (.iload_n 2, 1) := by decide +kernel
theorem dX5_does_97 : decode cX5_does 97 = .ok (.iconst 0, 1) := by decide +kernel
theorem dX5_does_98 : decode cX5_does 98 = .ok (.iconst 0, 1) := by decide +kernel
theorem dX5_does_99 : decode cX5_does 99 = .ok (.invokevirtual 186, 3) := by decide +kernel
theorem dX5_does_102 : decode cX5_does 102 = .ok (.ireturn, 1) := by decide +kernel
theorem dX5_does_103 : decode cX5_does 103 = .ok (.aload_n 0, 1) := by decide +kernel
theorem dX5_does_104 : decode cX5_does 104 = .ok (.iconst 3, 1) := by decide +kernel
theorem dX5_does_105 : decode cX5_does 105 = .ok (.iload_n 2, 1) := by decide +kernel
theorem dX5_does_106 : decode cX5_does 106 = .ok (.aload_n 0, 1) := by decide +kernel
theorem dX5_does_107 : decode cX5_does 107 = .ok (.getfield 25, 3) := by decide +kernel
theorem dX5_does_110 : decode cX5_does 110 = .ok (.iconst 4, 1) := by decide +kernel
theorem dX5_does_111 : decode cX5_does 111 = .ok (.iload_n 1, 1) := by decide +kernel
theorem dX5_does_112 : decode cX5_does 112 = .ok (.imul, 1) := by decide +kernel
theorem dX5_does_113 : decode cX5_does 113 = .ok (.iconst 2, 1) := by decide +kernel
theorem dX5_does_114 : decode cX5_does 114 = .ok (.iadd, 1) := by decide +kernel
theorem dX5_does_115 : decode cX5_does 115 = .ok (.iaload, 1) := by decide +kernel
theorem dX5_does_116 : decode cX5_does 116 = .ok (.aload_n 0, 1) := by decide +kernel
theorem dX5_does_117 : decode cX5_does 117 = .ok (.getfield 25, 3) := by decide +kernel
theorem dX5_does_120 : decode cX5_does 120 = .ok (.iconst 4, 1) := by decide +kernel
theorem dX5_does_121 : decode cX5_does 121 = .ok (.iload_n 1, 1) := by decide +kernel
theorem dX5_does_122 : decode cX5_does 122 = .ok (.imul, 1) := by decide +kernel
theorem dX5_does_123 : decode cX5_does 123 = .ok (.iconst 3, 1) := by decide +kernel
theorem dX5_does_124 : decode cX5_does 124 = .ok (.iadd, 1) := by decide +kernel
theorem dX5_does_125 : decode cX5_does 125 = .ok (.iaload, 1) := by decide +kernel
theorem dX5_does_126 : decode cX5_does 126 = .ok (.invokevirtual 186, 3) := by decide +kernel
theorem dX5_does_129 : decode cX5_does 129 = .ok (.ireturn, 1) := by decide +kernel
theorem dX5_does_130 : decode cX5_does 130 = .ok (.aload_n 0, 1) := by decide +kernel
theorem dX5_does_131 : decode cX5_does 131 = .ok (.iconst 1, 1) := by decide +kernel
theorem dX5_does_132 : decode cX5_does 132 = .ok (.invokevirtual 190, 3) := by decide +kernel
theorem dX5_does_135 : decode cX5_does 135 = .ok (.ireturn, 1) := by decide +kernel
theorem dX5_does_136 : decode cX5_does 136 = .ok (.aload_n 0, 1) := by decide +kernel
theorem dX5_does_137 : decode cX5_does 137 = .ok (.iconst 0, 1) := by decide +kernel
theorem dX5_does_138 : decode cX5_does 138 = .ok (.invokevirtual 190, 3) := by decide +kernel
theorem dX5_does_141 : decode cX5_does 141 = .ok (.ireturn, 1) := by decide +kernel
theorem dX5_does_142 : decode cX5_does 142 = .ok (.aload_n 0, 1) := by decide +kernel
theorem dX5_does_143 : decode cX5_does 143 = .ok (.iload_n 2, 1) := by decide +kernel
theorem dX5_does_144 : decode cX5_does 144 = .ok (.invokevirtual 194, 3) := by decide +kernel
theorem dX5_does_147 : decode cX5_does 147 = .ok (.ireturn, 1) := by decide +kernel
theorem dX5_run_0 : decode cX5_run 0 = .ok (.aload_n 0, 1) := by decide +kernel
theorem dX5_run_1 : decode cX5_run 1 = .ok (.aload_n 0, 1) := by decide +kernel
theorem dX5_run_2 : decode cX5_run 2 = .ok (.invokevirtual 183, 3) := by decide +kernel
theorem dX5_run_5 : decode cX5_run 5 = .ok (.iconst (-1), 1) := by decide +kernel
theorem dX5_run_6 : decode cX5_run 6 = .ok (.if_icmp .ne 7, 3) := by decide +kernel
theorem dX5_run_9 : decode cX5_run 9 = .ok (.iconst 0, 1) := by decide +kernel
theorem dX5_run_10 : decode cX5_run 10 = .ok (.goto 4, 3) := by decide +kernel
theorem dX5_run_13 : decode cX5_run 13 = .ok (.iconst 1, 1) := by decide +kernel
theorem dX5_run_14 : decode cX5_run 14 = .ok (.putfield 28, 3) := by decide +kernel
theorem dX5_run_17 : decode cX5_run 17 = .ok (.aload_n 0, 1) := by decide +kernel
theorem dX5_run_18 : decode cX5_run 18 = .ok (.getfield 28, 3) := by decide +kernel
theorem dX5_run_21 : decode cX5_run 21 = .ok (.ifCond .le 5, 3) := by decide +kernel
theorem dX5_run_24 : decode cX5_run 24 = .ok (.iconst 0, 1) := by decide +kernel
theorem dX5_run_25 : decode cX5_run 25 = .ok (.ireturn, 1) := by decide +kernel
theorem dX5_run_26 : decode cX5_run 26 = .ok (.aload_n 0, 1) := by decide +kernel
theorem dX5_run_27 : decode cX5_run 27 = .ok (.invokevirtual 82, 3) := by decide +kernel
theorem dX5_run_30 : decode cX5_run 30 = .ok (.iconst 0, 1) := by decide +kernel
theorem dX5_run_31 : decode cX5_run 31 = .ok (.istore_n 1, 1) := by decide +kernel
theorem dX5_run_32 : decode cX5_run 32 = .ok (.iload_n 1, 1) := by decide +kernel
theorem dX5_run_33 : decode cX5_run 33 = .ok (.aload_n 0, 1) := by decide +kernel
theorem dX5_run_34 : decode cX5_run 34 = .ok (.getfield 174, 3) := by decide +kernel
theorem dX5_run_37 : decode cX5_run 37 = .ok (.if_icmp .ge 17, 3) := by decide +kernel
theorem dX5_run_40 : decode cX5_run 40 = .ok (.aload_n 0, 1) := by decide +kernel
theorem dX5_run_41 : decode cX5_run 41 = .ok (.iload_n 1, 1) := by decide +kernel
theorem dX5_run_42 : decode cX5_run 42 = .ok (.invokevirtual 197, 3) := by decide +kernel
theorem dX5_run_45 : decode cX5_run 45 = .ok (.ifCond .eq 9, 3) := by decide +kernel
theorem dX5_run_48 : decode cX5_run 48 = .ok (.iinc 1 1, 3) := by decide +kernel
theorem dX5_run_51 : decode cX5_run 51 = .ok (.goto (-19), 3) := by decide +kernel
theorem dX5_run_54 : decode cX5_run 54 = .ok (.aload_n 0, 1) := by decide +kernel
theorem dX5_run_55 : decode cX5_run 55 = .ok (.iconst 0, 1) := by decide +kernel
theorem dX5_run_56 : decode cX5_run 56 = .ok (.putfield 157, 3) := by decide +kernel
theorem dX5_run_59 : decode cX5_run 59 = .ok (.iload_n 1, 1) := by decide +kernel
theorem dX5_run_60 : decode cX5_run 60 = .ok (.ireturn, 1) := by decide +kernel
theorem dX5_stateOf_0 : decode cX5_stateOf 0 = .ok (.aload_n 0, 1) := by decide +kernel
theorem dX5_stateOf_1 : decode cX5_stateOf 1 = .ok (.iload_n 1, 1) := by decide +kernel
theorem dX5_stateOf_2 : decode cX5_stateOf 2 = .ok (.invokevirtual 51, 3) := by decide +kernel
theorem dX5_stateOf_5 : decode cX5_stateOf 5 = .ok (.ifCond .eq 7, 3) := by decide +kernel
theorem dX5_stateOf_8 : decode cX5_stateOf 8 = .ok (.iconst 3, 1) := by decide +kernel
theorem dX5_stateOf_9 : decode cX5_stateOf 9 = .ok (.goto 34, 3) := by decide +kernel
theorem dX5_stateOf_12 : decode cX5_stateOf 12 = .ok (.aload_n 0, 1) := by decide +kernel
theorem dX5_stateOf_13 : decode cX5_stateOf 13 = .ok (.iload_n 1, 1) := by decide +kernel
theorem dX5_stateOf_14 : decode cX5_stateOf 14 = .ok (.bipush 6, 2) := by decide +kernel
theorem dX5_stateOf_16 : decode cX5_stateOf 16 = .ok (.invokevirtual 32, 3) := by decide +kernel
theorem dX5_stateOf_19 : decode cX5_stateOf 19 = .ok (.iconst 1, 1) := by decide +kernel
theorem dX5_stateOf_20 : decode cX5_stateOf 20 = .ok (.if_icmp .ne 7, 3) := by decide +kernel
theorem dX5_stateOf_23 : decode cX5_stateOf 23 = .ok (.iconst 1, 1) := by decide +kernel
theorem dX5_stateOf_24 : decode cX5_stateOf 24 = .ok (.goto 19, 3) := by decide +kernel
theorem dX5_stateOf_27 : decode cX5_stateOf 27 = .ok (.aload_n 0, 1) := by decide +kernel
theorem dX5_stateOf_28 : decode cX5_stateOf 28 = .ok (.iload_n 1, 1) := by decide +kernel
theorem dX5_stateOf_29 : decode cX5_stateOf 29 = .ok (.bipush 7, 2) := by decide +kernel
theorem dX5_stateOf_31 : decode cX5_stateOf 31 = .ok (.invokevirtual 32, 3) := by decide +kernel
theorem dX5_stateOf_34 : decode cX5_stateOf 34 = .ok (.iconst (-1), 1) := by decide +kernel
theorem dX5_stateOf_35 : decode cX5_stateOf 35 = .ok (.if_icmp .eq 7, 3) := by decide +kernel
theorem dX5_stateOf_38 : decode cX5_stateOf 38 = .ok (.iconst 2, 1) := by decide +kernel
theorem dX5_stateOf_39 : decode cX5_stateOf 39 = .ok (.goto 4, 3) := by decide +kernel
theorem dX5_stateOf_42 : decode cX5_stateOf 42 = .ok (.iconst 0, 1) := by decide +kernel
theorem dX5_stateOf_43 : decode cX5_stateOf 43 = .ok (.ireturn, 1) := by decide +kernel
theorem dX5_told_0 : decode cX5_told 0 = .ok (.iload_n 2, 1) := by decide +kernel
theorem dX5_told_1 : decode cX5_told 1 = .ok (.bipush 6, 2) := by decide +kernel
theorem dX5_told_3 : decode cX5_told 3 = .ok (.if_icmp .ge 10, 3) := by decide +kernel
theorem dX5_told_6 : decode cX5_told 6 = .ok (.aload_n 0, 1) := by decide +kernel
theorem dX5_told_7 : decode cX5_told 7 = .ok (.iload_n 1, 1) := by decide +kernel
theorem dX5_told_8 : decode cX5_told 8 = .ok (.iload_n 2, 1) := by decide +kernel
theorem dX5_told_9 : decode cX5_told 9 = .ok (.invokevirtual 32, 3) := by decide +kernel
theorem dX5_told_12 : decode cX5_told 12 = .ok (.ireturn, 1) := by decide +kernel
theorem dX5_told_13 : decode cX5_told 13 = .ok (.iload_n 2, 1) := by decide +kernel
theorem dX5_told_14 : decode cX5_told 14 = .ok (.bipush 6, 2) := by decide +kernel
theorem dX5_told_16 : decode cX5_told 16 = .ok (.if_icmp .ne 9, 3) := by decide +kernel
theorem dX5_told_19 : decode cX5_told 19 = .ok (.aload_n 0, 1) := by decide +kernel
theorem dX5_told_20 : decode cX5_told 20 = .ok (.iload_n 1, 1) := by decide +kernel
theorem dX5_told_21 : decode cX5_told 21 = .ok (.invokevirtual 39, 3) := by decide +kernel
theorem dX5_told_24 : decode cX5_told 24 = .ok (.ireturn, 1) := by decide +kernel
theorem dX5_told_25 : decode cX5_told 25 = .ok (.iload_n 2, 1) := by decide +kernel
theorem dX5_told_26 : decode cX5_told 26 = .ok (.bipush 7, 2) := by decide +kernel
theorem dX5_told_28 : decode cX5_told 28 = .ok (.if_icmp .ne 11, 3) := by decide +kernel
theorem dX5_told_31 : decode cX5_told 31 = .ok (.aload_n 0, 1) := by decide +kernel
theorem dX5_told_32 : decode cX5_told 32 = .ok (.iload_n 1, 1) := by decide +kernel
theorem dX5_told_33 : decode cX5_told 33 = .ok (.invokevirtual 200, 3) := by decide +kernel
theorem dX5_told_36 : decode cX5_told 36 = .ok (.goto 31, 3) := by decide +kernel
theorem dX5_told_39 : decode cX5_told 39 = .ok (.aload_n 0, 1) := by decide +kernel
theorem dX5_told_40 : decode cX5_told 40 = .ok (.iload_n 1, 1) := by decide +kernel
theorem dX5_told_41 : decode cX5_told 41 = .ok (.iload_n 2, 1) := by decide +kernel
theorem dX5_told_42 : decode cX5_told 42 = .ok (.bipush 12, 2) := by decide +kernel
theorem dX5_told_44 : decode cX5_told 44 = .ok (.if_icmp .ge 13, 3) := by decide +kernel
theorem dX5_told_47 : decode cX5_told 47 = .ok (.bipush 11, 2) := by decide +kernel
theorem dX5_told_49 : decode cX5_told 49 = .ok (.iload_n 2, 1) := by decide +kernel
theorem dX5_told_50 : decode cX5_told 50 = .ok (.iadd, 1) := by decide +kernel
theorem dX5_told_51 : decode cX5_told 51 = .ok (.bipush 8, 2) := by decide +kernel
theorem dX5_told_53 : decode cX5_told 53 = .ok (.isub, 1) := by decide +kernel
theorem dX5_told_54 : decode cX5_told 54 = .ok (.goto 10, 3) := by decide +kernel
theorem dX5_told_57 : decode cX5_told 57 = .ok (.bipush 15, 2) := by decide +kernel
theorem dX5_told_59 : decode cX5_told 59 = .ok (.iload_n 2, 1) := by decide +kernel
theorem dX5_told_60 : decode cX5_told 60 = .ok (.iadd, 1) := by decide +kernel
theorem dX5_told_61 : decode cX5_told 61 = .ok (.bipush 12, 2) := by decide +kernel
theorem dX5_told_63 : decode cX5_told 63 = .ok (.isub, 1) := by decide +kernel
theorem dX5_told_64 : decode cX5_told 64 = .ok (.invokevirtual 32, 3) := by decide +kernel
theorem dX5_told_67 : decode cX5_told 67 = .ok (.ireturn, 1) := by decide +kernel
theorem dX5_fighter_0 : decode cX5_fighter 0 = .ok (.aload_n 0, 1) := by decide +kernel
theorem dX5_fighter_1 : decode cX5_fighter 1 = .ok (.aload_n 0, 1) := by decide +kernel
theorem dX5_fighter_2 : decode cX5_fighter 2 = .ok (.iload_n 1, 1) := by decide +kernel
theorem dX5_fighter_3 : decode cX5_fighter 3 = .ok (.invokevirtual 126, 3) := by decide +kernel
theorem dX5_fighter_6 : decode cX5_fighter 6 = .ok (.ifCond .ne 7, 3) := by decide +kernel
theorem dX5_fighter_9 : decode cX5_fighter 9 = .ok (.iconst 1, 1) := by decide +kernel
theorem dX5_fighter_10 : decode cX5_fighter 10 = .ok (.goto 18, 3) := by decide +kernel
theorem dX5_fighter_13 : decode cX5_fighter 13 = .ok (.iload_n 2, 1) := by decide +kernel
theorem dX5_fighter_14 : decode cX5_fighter 14 = .ok (.iconst 0, 1) := by decide +kernel
theorem dX5_fighter_15 : decode cX5_fighter 15 = .ok (.bipush 13, 2) := by decide +kernel
theorem dX5_fighter_17 : decode cX5_fighter 17 = .ok (.invokestatic 85, 3) := by decide +kernel
theorem dX5_fighter_20 : decode cX5_fighter 20 = .ok (.ifCond .eq 7, 3) := by decide +kernel
theorem dX5_fighter_23 : decode cX5_fighter 23 = .ok (.iconst 0, 1) := by decide +kernel
theorem dX5_fighter_24 : decode cX5_fighter 24 = .ok (.goto 4, 3) := by decide +kernel
theorem dX5_fighter_27 : decode cX5_fighter 27 = .ok (.iconst 2, 1) := by decide +kernel
theorem dX5_fighter_28 : decode cX5_fighter 28 = .ok (.putfield 28, 3) := by decide +kernel
theorem dX5_fighter_31 : decode cX5_fighter 31 = .ok (.aload_n 0, 1) := by decide +kernel
theorem dX5_fighter_32 : decode cX5_fighter 32 = .ok (.getfield 28, 3) := by decide +kernel
theorem dX5_fighter_35 : decode cX5_fighter 35 = .ok (.ifCond .le 7, 3) := by decide +kernel
theorem dX5_fighter_38 : decode cX5_fighter 38 = .ok (.iconst 0, 1) := by decide +kernel
theorem dX5_fighter_39 : decode cX5_fighter 39 = .ok (.goto 9, 3) := by decide +kernel
theorem dX5_fighter_42 : decode cX5_fighter 42 = .ok (.aload_n 0, 1) := by decide +kernel
theorem dX5_fighter_43 : decode cX5_fighter 43 = .ok (.iload_n 1, 1) := by decide +kernel
theorem dX5_fighter_44 : decode cX5_fighter 44 = .ok (.iload_n 2, 1) := by decide +kernel
theorem dX5_fighter_45 : decode cX5_fighter 45 = .ok (.invokevirtual 203, 3) := by decide +kernel
theorem dX5_fighter_48 : decode cX5_fighter 48 = .ok (.ireturn, 1) := by decide +kernel
theorem dX5_readied_0 : decode cX5_readied 0 = .ok (.aload_n 0, 1) := by decide +kernel
theorem dX5_readied_1 : decode cX5_readied 1 = .ok (.aload_n 0, 1) := by decide +kernel
theorem dX5_readied_2 : decode cX5_readied 2 = .ok (.iload_n 1, 1) := by decide +kernel
theorem dX5_readied_3 : decode cX5_readied 3 = .ok (.invokevirtual 126, 3) := by decide +kernel
theorem dX5_readied_6 : decode cX5_readied 6 = .ok (.ifCond .ne 7, 3) := by decide +kernel
theorem dX5_readied_9 : decode cX5_readied 9 = .ok (.iconst 1, 1) := by decide +kernel
theorem dX5_readied_10 : decode cX5_readied 10 = .ok (.goto 17, 3) := by decide +kernel
theorem dX5_readied_13 : decode cX5_readied 13 = .ok (.iload_n 2, 1) := by decide +kernel
theorem dX5_readied_14 : decode cX5_readied 14 = .ok (.iconst 0, 1) := by decide +kernel
theorem dX5_readied_15 : decode cX5_readied 15 = .ok (.iconst 3, 1) := by decide +kernel
theorem dX5_readied_16 : decode cX5_readied 16 = .ok (.invokestatic 85, 3) := by decide +kernel
theorem dX5_readied_19 : decode cX5_readied 19 = .ok (.ifCond .eq 7, 3) := by decide +kernel
theorem dX5_readied_22 : decode cX5_readied 22 = .ok (.iconst 0, 1) := by decide +kernel
theorem dX5_readied_23 : decode cX5_readied 23 = .ok (.goto 4, 3) := by decide +kernel
theorem dX5_readied_26 : decode cX5_readied 26 = .ok (.iconst 2, 1) := by decide +kernel
theorem dX5_readied_27 : decode cX5_readied 27 = .ok (.putfield 28, 3) := by decide +kernel
theorem dX5_readied_30 : decode cX5_readied 30 = .ok (.aload_n 0, 1) := by decide +kernel
theorem dX5_readied_31 : decode cX5_readied 31 = .ok (.getfield 28, 3) := by decide +kernel
theorem dX5_readied_34 : decode cX5_readied 34 = .ok (.ifCond .le 7, 3) := by decide +kernel
theorem dX5_readied_37 : decode cX5_readied 37 = .ok (.iconst 0, 1) := by decide +kernel
theorem dX5_readied_38 : decode cX5_readied 38 = .ok (.goto 12, 3) := by decide +kernel
theorem dX5_readied_41 : decode cX5_readied 41 = .ok (.aload_n 0, 1) := by decide +kernel
theorem dX5_readied_42 : decode cX5_readied 42 = .ok (.iload_n 1, 1) := by decide +kernel
theorem dX5_readied_43 : decode cX5_readied 43 = .ok (.bipush 7, 2) := by decide +kernel
theorem dX5_readied_45 : decode cX5_readied 45 = .ok (.iload_n 2, 1) := by decide +kernel
theorem dX5_readied_46 : decode cX5_readied 46 = .ok (.iadd, 1) := by decide +kernel
theorem dX5_readied_47 : decode cX5_readied 47 = .ok (.invokevirtual 32, 3) := by decide +kernel
theorem dX5_readied_50 : decode cX5_readied 50 = .ok (.ireturn, 1) := by decide +kernel
theorem dX5_rowAt_0 : decode cX5_rowAt 0 = .ok (.iload_n 1, 1) := by decide +kernel
theorem dX5_rowAt_1 : decode cX5_rowAt 1 = .ok (.aload_n 0, 1) := by decide +kernel
theorem dX5_rowAt_2 : decode cX5_rowAt 2 = .ok (.getfield 7, 3) := by decide +kernel
theorem dX5_rowAt_5 : decode cX5_rowAt 5 = .ok (.iconst 0, 1) := by decide +kernel
theorem dX5_rowAt_6 : decode cX5_rowAt 6 = .ok (.iaload, 1) := by decide +kernel
theorem dX5_rowAt_7 : decode cX5_rowAt 7 = .ok (.if_icmp .ge 15, 3) := by decide +kernel
theorem dX5_rowAt_10 : decode cX5_rowAt 10 = .ok (.aload_n 0, 1) := by decide +kernel
theorem dX5_rowAt_11 : decode cX5_rowAt 11 = .ok (.getfield 7, 3) := by decide +kernel
theorem dX5_rowAt_14 : decode cX5_rowAt 14 = .ok (.bipush 6, 2) := by decide +kernel
theorem dX5_rowAt_16 : decode cX5_rowAt 16 = .ok (.iload_n 1, 1) := by decide +kernel
theorem dX5_rowAt_17 : decode cX5_rowAt 17 = .ok (.iadd, 1) := by decide +kernel
theorem dX5_rowAt_18 : decode cX5_rowAt 18 = .ok (.iaload, 1) := by decide +kernel
theorem dX5_rowAt_19 : decode cX5_rowAt 19 = .ok (.goto 4, 3) := by decide +kernel
theorem dX5_rowAt_22 : decode cX5_rowAt 22 = .ok (.iconst (-1), 1) := by decide +kernel
theorem dX5_rowAt_23 : decode cX5_rowAt 23 = .ok (.ireturn, 1) := by decide +kernel
theorem dX5_inRow_0 : decode cX5_inRow 0 = .ok (.aload_n 0, 1) := by decide +kernel
theorem dX5_inRow_1 : decode cX5_inRow 1 = .ok (.iload_n 1, 1) := by decide +kernel
theorem dX5_inRow_2 : decode cX5_inRow 2 = .ok (.ifCond .ge 7, 3) := by decide +kernel
theorem dX5_inRow_5 : decode cX5_inRow 5 = .ok (.iconst 1, 1) := by decide +kernel
theorem dX5_inRow_6 : decode cX5_inRow 6 = .ok (.goto 4, 3) := by decide +kernel
theorem dX5_inRow_9 : decode cX5_inRow 9 = .ok (.iconst 0, 1) := by decide +kernel
theorem dX5_inRow_10 : decode cX5_inRow 10 = .ok (.putfield 28, 3) := by decide +kernel
theorem dX5_inRow_13 : decode cX5_inRow 13 = .ok (.aload_n 0, 1) := by decide +kernel
theorem dX5_inRow_14 : decode cX5_inRow 14 = .ok (.getfield 28, 3) := by decide +kernel
theorem dX5_inRow_17 : decode cX5_inRow 17 = .ok (.ifCond .le 7, 3) := by decide +kernel
theorem dX5_inRow_20 : decode cX5_inRow 20 = .ok (.iconst 0, 1) := by decide +kernel
theorem dX5_inRow_21 : decode cX5_inRow 21 = .ok (.goto 8, 3) := by decide +kernel
theorem dX5_inRow_24 : decode cX5_inRow 24 = .ok (.aload_n 0, 1) := by decide +kernel
theorem dX5_inRow_25 : decode cX5_inRow 25 = .ok (.iload_n 1, 1) := by decide +kernel
theorem dX5_inRow_26 : decode cX5_inRow 26 = .ok (.invokevirtual 206, 3) := by decide +kernel
theorem dX5_inRow_29 : decode cX5_inRow 29 = .ok (.ireturn, 1) := by decide +kernel
theorem dX5_standingOf_0 : decode cX5_standingOf 0 = .ok (.iconst 0, 1) := by decide +kernel
theorem dX5_standingOf_1 : decode cX5_standingOf 1 = .ok (.istore_n 2, 1) := by decide +kernel
theorem dX5_standingOf_2 : decode cX5_standingOf 2 = .ok (.iconst 0, 1) := by decide +kernel
theorem dX5_standingOf_3 : decode cX5_standingOf 3 = .ok (.istore_n 3, 1) := by decide +kernel
theorem dX5_standingOf_4 : decode cX5_standingOf 4 = .ok (.iload_n 3, 1) := by decide +kernel
theorem dX5_standingOf_5 : decode cX5_standingOf 5 = .ok (.aload_n 0, 1) := by decide +kernel
theorem dX5_standingOf_6 : decode cX5_standingOf 6 = .ok (.getfield 7, 3) := by decide +kernel
theorem dX5_standingOf_9 : decode cX5_standingOf 9 = .ok (.iconst 0, 1) := by decide +kernel
theorem dX5_standingOf_10 : decode cX5_standingOf 10 = .ok (.iaload, 1) := by decide +kernel
theorem dX5_standingOf_11 : decode cX5_standingOf 11 = .ok (.if_icmp .ge 35, 3) := by decide +kernel
theorem dX5_standingOf_14 : decode cX5_standingOf 14 = .ok (.iload_n 2, 1) := by decide +kernel
theorem dX5_standingOf_15 : decode cX5_standingOf 15 = .ok (.aload_n 0, 1) := by decide +kernel
theorem dX5_standingOf_16 : decode cX5_standingOf 16 = .ok (.iload_n 3, 1) := by decide +kernel
theorem dX5_standingOf_17 : decode cX5_standingOf 17 = .ok (.iconst 0, 1) := by decide +kernel
theorem dX5_standingOf_18 : decode cX5_standingOf 18 = .ok (.invokevirtual 32, 3) := by decide +kernel
theorem dX5_standingOf_21 : decode cX5_standingOf 21 = .ok (.iload_n 1, 1) := by decide +kernel
theorem dX5_standingOf_22 : decode cX5_standingOf 22 = .ok (.if_icmp .ne 15, 3) := by decide +kernel
theorem dX5_standingOf_25 : decode cX5_standingOf 25 = .ok (.aload_n 0, 1) := by decide +kernel
theorem dX5_standingOf_26 : decode cX5_standingOf 26 = .ok (.iload_n 3, 1) := by decide +kernel
theorem dX5_standingOf_27 : decode cX5_standingOf 27 = .ok (.invokevirtual 51, 3) := by decide +kernel
theorem dX5_standingOf_30 : decode cX5_standingOf 30 = .ok (.ifCond .ne 7, 3) := by decide +kernel
theorem dX5_standingOf_33 : decode cX5_standingOf 33 = .ok (.iconst 1, 1) := by decide +kernel
theorem dX5_standingOf_34 : decode cX5_standingOf 34 = .ok (.goto 4, 3) := by decide +kernel
theorem dX5_standingOf_37 : decode cX5_standingOf 37 = .ok (.iconst 0, 1) := by decide +kernel
theorem dX5_standingOf_38 : decode cX5_standingOf 38 = .ok (.iadd, 1) := by decide +kernel
theorem dX5_standingOf_39 : decode cX5_standingOf 39 = .ok (.istore_n 2, 1) := by decide +kernel
theorem dX5_standingOf_40 : decode cX5_standingOf 40 = .ok (.iinc 3 1, 3) := by decide +kernel
theorem dX5_standingOf_43 : decode cX5_standingOf 43 = .ok (.goto (-39), 3) := by decide +kernel
theorem dX5_standingOf_46 : decode cX5_standingOf 46 = .ok (.iload_n 2, 1) := by decide +kernel
theorem dX5_standingOf_47 : decode cX5_standingOf 47 = .ok (.ireturn, 1) := by decide +kernel
theorem dX5_lifeOf_0 : decode cX5_lifeOf 0 = .ok (.iconst 0, 1) := by decide +kernel
theorem dX5_lifeOf_1 : decode cX5_lifeOf 1 = .ok (.istore_n 2, 1) := by decide +kernel
theorem dX5_lifeOf_2 : decode cX5_lifeOf 2 = .ok (.iconst 0, 1) := by decide +kernel
theorem dX5_lifeOf_3 : decode cX5_lifeOf 3 = .ok (.istore_n 3, 1) := by decide +kernel
theorem dX5_lifeOf_4 : decode cX5_lifeOf 4 = .ok (.iload_n 3, 1) := by decide +kernel
theorem dX5_lifeOf_5 : decode cX5_lifeOf 5 = .ok (.aload_n 0, 1) := by decide +kernel
theorem dX5_lifeOf_6 : decode cX5_lifeOf 6 = .ok (.getfield 7, 3) := by decide +kernel
theorem dX5_lifeOf_9 : decode cX5_lifeOf 9 = .ok (.iconst 0, 1) := by decide +kernel
theorem dX5_lifeOf_10 : decode cX5_lifeOf 10 = .ok (.iaload, 1) := by decide +kernel
theorem dX5_lifeOf_11 : decode cX5_lifeOf 11 = .ok (.if_icmp .ge 32, 3) := by decide +kernel
theorem dX5_lifeOf_14 : decode cX5_lifeOf 14 = .ok (.iload_n 2, 1) := by decide +kernel
theorem dX5_lifeOf_15 : decode cX5_lifeOf 15 = .ok (.aload_n 0, 1) := by decide +kernel
theorem dX5_lifeOf_16 : decode cX5_lifeOf 16 = .ok (.iload_n 3, 1) := by decide +kernel
theorem dX5_lifeOf_17 : decode cX5_lifeOf 17 = .ok (.iconst 0, 1) := by decide +kernel
theorem dX5_lifeOf_18 : decode cX5_lifeOf 18 = .ok (.invokevirtual 32, 3) := by decide +kernel
theorem dX5_lifeOf_21 : decode cX5_lifeOf 21 = .ok (.iload_n 1, 1) := by decide +kernel
theorem dX5_lifeOf_22 : decode cX5_lifeOf 22 = .ok (.if_icmp .ne 12, 3) := by decide +kernel
theorem dX5_lifeOf_25 : decode cX5_lifeOf 25 = .ok (.aload_n 0, 1) := by decide +kernel
theorem dX5_lifeOf_26 : decode cX5_lifeOf 26 = .ok (.iload_n 3, 1) := by decide +kernel
theorem dX5_lifeOf_27 : decode cX5_lifeOf 27 = .ok (.iconst 2, 1) := by decide +kernel
theorem dX5_lifeOf_28 : decode cX5_lifeOf 28 = .ok (.invokevirtual 32, 3) := by decide +kernel
theorem dX5_lifeOf_31 : decode cX5_lifeOf 31 = .ok (.goto 4, 3) := by decide +kernel
theorem dX5_lifeOf_34 : decode cX5_lifeOf 34 = .ok (.iconst 0, 1) := by decide +kernel
theorem dX5_lifeOf_35 : decode cX5_lifeOf 35 = .ok (.iadd, 1) := by decide +kernel
theorem dX5_lifeOf_36 : decode cX5_lifeOf 36 = .ok (.istore_n 2, 1) := by decide +kernel
theorem dX5_lifeOf_37 : decode cX5_lifeOf 37 = .ok (.iinc 3 1, 3) := by decide +kernel
theorem dX5_lifeOf_40 : decode cX5_lifeOf 40 = .ok (.goto (-36), 3) := by decide +kernel
theorem dX5_lifeOf_43 : decode cX5_lifeOf 43 = .ok (.iload_n 2, 1) := by decide +kernel
theorem dX5_lifeOf_44 : decode cX5_lifeOf 44 = .ok (.ireturn, 1) := by decide +kernel
theorem dX5_waiting_0 : decode cX5_waiting 0 = .ok (.iconst 0, 1) := by decide +kernel
theorem dX5_waiting_1 : decode cX5_waiting 1 = .ok (.istore_n 2, 1) := by decide +kernel
theorem dX5_waiting_2 : decode cX5_waiting 2 = .ok (.iconst 0, 1) := by decide +kernel
theorem dX5_waiting_3 : decode cX5_waiting 3 = .ok (.istore_n 3, 1) := by decide +kernel
theorem dX5_waiting_4 : decode cX5_waiting 4 = .ok (.iload_n 3, 1) := by decide +kernel
theorem dX5_waiting_5 : decode cX5_waiting 5 = .ok (.aload_n 0, 1) := by decide +kernel
theorem dX5_waiting_6 : decode cX5_waiting 6 = .ok (.getfield 7, 3) := by decide +kernel
theorem dX5_waiting_9 : decode cX5_waiting 9 = .ok (.iconst 0, 1) := by decide +kernel
theorem dX5_waiting_10 : decode cX5_waiting 10 = .ok (.iaload, 1) := by decide +kernel
theorem dX5_waiting_11 : decode cX5_waiting 11 = .ok (.if_icmp .ge 71, 3) := by decide +kernel
theorem dX5_waiting_14 : decode cX5_waiting 14 = .ok (.iload_n 1, 1) := by decide +kernel
theorem dX5_waiting_15 : decode cX5_waiting 15 = .ok (.ifCond .eq 22, 3) := by decide +kernel
theorem dX5_waiting_18 : decode cX5_waiting 18 = .ok (.aload_n 0, 1) := by decide +kernel
theorem dX5_waiting_19 : decode cX5_waiting 19 = .ok (.iload_n 3, 1) := by decide +kernel
theorem dX5_waiting_20 : decode cX5_waiting 20 = .ok (.bipush 6, 2) := by decide +kernel
theorem dX5_waiting_22 : decode cX5_waiting 22 = .ok (.invokevirtual 32, 3) := by decide +kernel
theorem dX5_waiting_25 : decode cX5_waiting 25 = .ok (.iconst 1, 1) := by decide +kernel
theorem dX5_waiting_26 : decode cX5_waiting 26 = .ok (.if_icmp .ne 7, 3) := by decide +kernel
theorem dX5_waiting_29 : decode cX5_waiting 29 = .ok (.iconst 1, 1) := by decide +kernel
theorem dX5_waiting_30 : decode cX5_waiting 30 = .ok (.goto 23, 3) := by decide +kernel
theorem dX5_waiting_33 : decode cX5_waiting 33 = .ok (.iconst 0, 1) := by decide +kernel
theorem dX5_waiting_34 : decode cX5_waiting 34 = .ok (.goto 19, 3) := by decide +kernel
theorem dX5_waiting_37 : decode cX5_waiting 37 = .ok (.aload_n 0, 1) := by decide +kernel
theorem dX5_waiting_38 : decode cX5_waiting 38 = .ok (.iload_n 3, 1) := by decide +kernel
theorem dX5_waiting_39 : decode cX5_waiting 39 = .ok (.bipush 7, 2) := by decide +kernel
theorem dX5_waiting_41 : decode cX5_waiting 41 = .ok (.invokevirtual 32, 3) := by decide +kernel
theorem dX5_waiting_44 : decode cX5_waiting 44 = .ok (.iconst (-1), 1) := by decide +kernel
theorem dX5_waiting_45 : decode cX5_waiting 45 = .ok (.if_icmp .eq 7, 3) := by decide +kernel
theorem dX5_waiting_48 : decode cX5_waiting 48 = .ok (.iconst 1, 1) := by decide +kernel
theorem dX5_waiting_49 : decode cX5_waiting 49 = .ok (.goto 4, 3) := by decide +kernel
theorem dX5_waiting_52 : decode cX5_waiting 52 = .ok (.iconst 0, 1) := by decide +kernel
theorem dX5_waiting_53 : decode cX5_waiting 53 = .ok (.istore 4, 2) := by decide +kernel
theorem dX5_waiting_55 : decode cX5_waiting 55 = .ok (.iload_n 2, 1) := by decide +kernel
theorem dX5_waiting_56 : decode cX5_waiting 56 = .ok (.iload 4, 2) := by decide +kernel
theorem dX5_waiting_58 : decode cX5_waiting 58 = .ok (.ifCond .eq 15, 3) := by decide +kernel
theorem dX5_waiting_61 : decode cX5_waiting 61 = .ok (.aload_n 0, 1) := by decide +kernel
theorem dX5_waiting_62 : decode cX5_waiting 62 = .ok (.iload_n 3, 1) := by decide +kernel
theorem dX5_waiting_63 : decode cX5_waiting 63 = .ok (.invokevirtual 51, 3) := by decide +kernel
theorem dX5_waiting_66 : decode cX5_waiting 66 = .ok (.ifCond .ne 7, 3) := by decide +kernel
theorem dX5_waiting_69 : decode cX5_waiting 69 = .ok (.iconst 1, 1) := by decide +kernel
theorem dX5_waiting_70 : decode cX5_waiting 70 = .ok (.goto 4, 3) := by decide +kernel
theorem dX5_waiting_73 : decode cX5_waiting 73 = .ok (.iconst 0, 1) := by decide +kernel
theorem dX5_waiting_74 : decode cX5_waiting 74 = .ok (.iadd, 1) := by decide +kernel
theorem dX5_waiting_75 : decode cX5_waiting 75 = .ok (.istore_n 2, 1) := by decide +kernel
theorem dX5_waiting_76 : decode cX5_waiting 76 = .ok (.iinc 3 1, 3) := by decide +kernel
theorem dX5_waiting_79 : decode cX5_waiting 79 = .ok (.goto (-75), 3) := by decide +kernel
theorem dX5_waiting_82 : decode cX5_waiting 82 = .ok (.iload_n 2, 1) := by decide +kernel
theorem dX5_waiting_83 : decode cX5_waiting 83 = .ok (.ireturn, 1) := by decide +kernel
theorem dX5_counted_0 : decode cX5_counted 0 = .ok (.iload_n 1, 1) := by decide +kernel
theorem dX5_counted_1 : decode cX5_counted 1 = .ok (.tableswitch 111 0 11 #[63, 63, 63, 70, 70, 78, 84, 90, 90, 90, 102, 102], 63) := by decide +kernel
theorem dX5_counted_64 : decode cX5_counted 64 = .ok (.aload_n 0, 1) := by decide +kernel
theorem dX5_counted_65 : decode cX5_counted 65 = .ok (.getfield 7, 3) := by decide +kernel
theorem dX5_counted_68 : decode cX5_counted 68 = .ok (.iload_n 1, 1) := by decide +kernel
theorem dX5_counted_69 : decode cX5_counted 69 = .ok (.iaload, 1) := by decide +kernel
theorem dX5_counted_70 : decode cX5_counted 70 = .ok (.ireturn, 1) := by decide +kernel
theorem dX5_counted_71 : decode cX5_counted 71 = .ok (.aload_n 0, 1) := by decide +kernel
theorem dX5_counted_72 : decode cX5_counted 72 = .ok (.iload_n 1, 1) := by decide +kernel
theorem dX5_counted_73 : decode cX5_counted 73 = .ok (.iconst 3, 1) := by decide +kernel
theorem dX5_counted_74 : decode cX5_counted 74 = .ok (.isub, 1) := by decide +kernel
theorem dX5_counted_75 : decode cX5_counted 75 = .ok (.invokevirtual 209, 3) := by decide +kernel
theorem dX5_counted_78 : decode cX5_counted 78 = .ok (.ireturn, 1) := by decide +kernel
theorem dX5_counted_79 : decode cX5_counted 79 = .ok (.aload_n 0, 1) := by decide +kernel
theorem dX5_counted_80 : decode cX5_counted 80 = .ok (.iconst 1, 1) := by decide +kernel
theorem dX5_counted_81 : decode cX5_counted 81 = .ok (.invokevirtual 212, 3) := by decide +kernel
theorem dX5_counted_84 : decode cX5_counted 84 = .ok (.ireturn, 1) := by decide +kernel
theorem dX5_counted_85 : decode cX5_counted 85 = .ok (.aload_n 0, 1) := by decide +kernel
theorem dX5_counted_86 : decode cX5_counted 86 = .ok (.iconst 0, 1) := by decide +kernel
theorem dX5_counted_87 : decode cX5_counted 87 = .ok (.invokevirtual 212, 3) := by decide +kernel
theorem dX5_counted_90 : decode cX5_counted 90 = .ok (.ireturn, 1) := by decide +kernel
theorem dX5_counted_91 : decode cX5_counted 91 = .ok (.aload_n 0, 1) := by decide +kernel
theorem dX5_counted_92 : decode cX5_counted 92 = .ok (.getfield 7, 3) := by decide +kernel
theorem dX5_counted_95 : decode cX5_counted 95 = .ok (.iconst 3, 1) := by decide +kernel
theorem dX5_counted_96 : decode cX5_counted 96 = .ok (.iload_n 1, 1) := by decide +kernel
theorem dX5_counted_97 : decode cX5_counted 97 = .ok (.iadd, 1) := by decide +kernel
theorem dX5_counted_98 : decode cX5_counted 98 = .ok (.bipush 7, 2) := by decide +kernel
theorem dX5_counted_100 : decode cX5_counted 100 = .ok (.isub, 1) := by decide +kernel
theorem dX5_counted_101 : decode cX5_counted 101 = .ok (.iaload, 1) := by decide +kernel
theorem dX5_counted_102 : decode cX5_counted 102 = .ok (.ireturn, 1) := by decide +kernel
theorem dX5_counted_103 : decode cX5_counted 103 = .ok (.aload_n 0, 1) := by decide +kernel
theorem dX5_counted_104 : decode cX5_counted 104 = .ok (.iload_n 1, 1) := by decide +kernel
theorem dX5_counted_105 : decode cX5_counted 105 = .ok (.bipush 10, 2) := by decide +kernel
theorem dX5_counted_107 : decode cX5_counted 107 = .ok (.isub, 1) := by decide +kernel
theorem dX5_counted_108 : decode cX5_counted 108 = .ok (.invokevirtual 216, 3) := by decide +kernel
theorem dX5_counted_111 : decode cX5_counted 111 = .ok (.ireturn, 1) := by decide +kernel
theorem dX5_counted_112 : decode cX5_counted 112 = .ok (.aload_n 0, 1) := by decide +kernel
theorem dX5_counted_113 : decode cX5_counted 113 = .ok (.getfield 36, 3) := by decide +kernel
theorem dX5_counted_116 : decode cX5_counted 116 = .ok (.ireturn, 1) := by decide +kernel
theorem dX5_count_0 : decode cX5_count 0 = .ok (.aload_n 0, 1) := by decide +kernel
theorem dX5_count_1 : decode cX5_count 1 = .ok (.iload_n 1, 1) := by decide +kernel
theorem dX5_count_2 : decode cX5_count 2 = .ok (.iconst 0, 1) := by decide +kernel
theorem dX5_count_3 : decode cX5_count 3 = .ok (.bipush 12, 2) := by decide +kernel
theorem dX5_count_5 : decode cX5_count 5 = .ok (.invokestatic 85, 3) := by decide +kernel
theorem dX5_count_8 : decode cX5_count 8 = .ok (.ifCond .eq 7, 3) := by decide +kernel
theorem dX5_count_11 : decode cX5_count 11 = .ok (.iconst 0, 1) := by decide +kernel
theorem dX5_count_12 : decode cX5_count 12 = .ok (.goto 4, 3) := by decide +kernel
theorem dX5_count_15 : decode cX5_count 15 = .ok (.iconst 1, 1) := by decide +kernel
theorem dX5_count_16 : decode cX5_count 16 = .ok (.putfield 28, 3) := by decide +kernel
theorem dX5_count_19 : decode cX5_count 19 = .ok (.aload_n 0, 1) := by decide +kernel
theorem dX5_count_20 : decode cX5_count 20 = .ok (.getfield 28, 3) := by decide +kernel
theorem dX5_count_23 : decode cX5_count 23 = .ok (.ifCond .le 7, 3) := by decide +kernel
theorem dX5_count_26 : decode cX5_count 26 = .ok (.iconst 0, 1) := by decide +kernel
theorem dX5_count_27 : decode cX5_count 27 = .ok (.goto 8, 3) := by decide +kernel
theorem dX5_count_30 : decode cX5_count 30 = .ok (.aload_n 0, 1) := by decide +kernel
theorem dX5_count_31 : decode cX5_count 31 = .ok (.iload_n 1, 1) := by decide +kernel
theorem dX5_count_32 : decode cX5_count 32 = .ok (.invokevirtual 219, 3) := by decide +kernel
theorem dX5_count_35 : decode cX5_count 35 = .ok (.ireturn, 1) := by decide +kernel
theorem dX5_wouldDo_0 : decode cX5_wouldDo 0 = .ok (.aload_n 0, 1) := by decide +kernel
theorem dX5_wouldDo_1 : decode cX5_wouldDo 1 = .ok (.iload_n 1, 1) := by decide +kernel
theorem dX5_wouldDo_2 : decode cX5_wouldDo 2 = .ok (.iload_n 2, 1) := by decide +kernel
theorem dX5_wouldDo_3 : decode cX5_wouldDo 3 = .ok (.invokevirtual 129, 3) := by decide +kernel
theorem dX5_wouldDo_6 : decode cX5_wouldDo 6 = .ok (.ifCond .ne 13, 3) := by decide +kernel
theorem dX5_wouldDo_9 : decode cX5_wouldDo 9 = .ok (.iload_n 3, 1) := by decide +kernel
theorem dX5_wouldDo_10 : decode cX5_wouldDo 10 = .ok (.ifCond .ne 7, 3) := by decide +kernel
theorem dX5_wouldDo_13 : decode cX5_wouldDo 13 = .ok (.iconst 0, 1) := by decide +kernel
theorem dX5_wouldDo_14 : decode cX5_wouldDo 14 = .ok (.goto 4, 3) := by decide +kernel
theorem dX5_wouldDo_17 : decode cX5_wouldDo 17 = .ok (.iconst (-1), 1) := by decide +kernel
theorem dX5_wouldDo_18 : decode cX5_wouldDo 18 = .ok (.ireturn, 1) := by decide +kernel
theorem dX5_wouldDo_19 : decode cX5_wouldDo 19 = .ok (.iload_n 3, 1) := by decide +kernel
theorem dX5_wouldDo_20 : decode cX5_wouldDo 20 = .ok (.ifCond .ne 5, 3) := by decide +kernel
theorem dX5_wouldDo_23 : decode cX5_wouldDo 23 = .ok (.iconst 1, 1) := by decide +kernel
theorem dX5_wouldDo_24 : decode cX5_wouldDo 24 = .ok (.ireturn, 1) := by decide +kernel
theorem dX5_wouldDo_25 : decode cX5_wouldDo 25 = .ok (.aload_n 0, 1) := by decide +kernel
theorem dX5_wouldDo_26 : decode cX5_wouldDo 26 = .ok (.invokevirtual 222, 3) := by decide +kernel
theorem dX5_wouldDo_29 : decode cX5_wouldDo 29 = .ok (.aload_n 0, 1) := by decide +kernel
theorem dX5_wouldDo_30 : decode cX5_wouldDo 30 = .ok (.iload_n 1, 1) := by decide +kernel
theorem dX5_wouldDo_31 : decode cX5_wouldDo 31 = .ok (.iload_n 2, 1) := by decide +kernel
theorem dX5_wouldDo_32 : decode cX5_wouldDo 32 = .ok (.iconst 0, 1) := by decide +kernel
theorem dX5_wouldDo_33 : decode cX5_wouldDo 33 = .ok (.iconst 1, 1) := by decide +kernel
theorem dX5_wouldDo_34 : decode cX5_wouldDo 34 = .ok (.invokevirtual 135, 3) := by decide +kernel
theorem dX5_wouldDo_37 : decode cX5_wouldDo 37 = .ok (.istore 4, 2) := by decide +kernel
theorem dX5_wouldDo_39 : decode cX5_wouldDo 39 = .ok (.iload_n 3, 1) := by decide +kernel
theorem dX5_wouldDo_40 : decode cX5_wouldDo 40 = .ok (.iconst 1, 1) := by decide +kernel
theorem dX5_wouldDo_41 : decode cX5_wouldDo 41 = .ok (.if_icmp .ne 10, 3) := by decide +kernel
theorem dX5_wouldDo_44 : decode cX5_wouldDo 44 = .ok (.aload_n 0, 1) := by decide +kernel
theorem dX5_wouldDo_45 : decode cX5_wouldDo 45 = .ok (.getfield 120, 3) := by decide +kernel
theorem dX5_wouldDo_48 : decode cX5_wouldDo 48 = .ok (.goto 28, 3) := by decide +kernel
theorem dX5_wouldDo_51 : decode cX5_wouldDo 51 = .ok (.iload_n 3, 1) := by decide +kernel
theorem dX5_wouldDo_52 : decode cX5_wouldDo 52 = .ok (.iconst 2, 1) := by decide +kernel
theorem dX5_wouldDo_53 : decode cX5_wouldDo 53 = .ok (.if_icmp .ne 17, 3) := by decide +kernel
theorem dX5_wouldDo_56 : decode cX5_wouldDo 56 = .ok (.iload 4, 2) := by decide +kernel
theorem dX5_wouldDo_58 : decode cX5_wouldDo 58 = .ok (.iconst (-1), 1) := by decide +kernel
theorem dX5_wouldDo_59 : decode cX5_wouldDo 59 = .ok (.if_icmp .ne 7, 3) := by decide +kernel
theorem dX5_wouldDo_62 : decode cX5_wouldDo 62 = .ok (.iconst 0, 1) := by decide +kernel
theorem dX5_wouldDo_63 : decode cX5_wouldDo 63 = .ok (.goto 13, 3) := by decide +kernel
theorem dX5_wouldDo_66 : decode cX5_wouldDo 66 = .ok (.iconst 1, 1) := by decide +kernel
theorem dX5_wouldDo_67 : decode cX5_wouldDo 67 = .ok (.goto 9, 3) := by decide +kernel
theorem dX5_wouldDo_70 : decode cX5_wouldDo 70 = .ok (.aload_n 0, 1) := by decide +kernel
theorem dX5_wouldDo_71 : decode cX5_wouldDo 71 = .ok (.getfield 7, 3) := by decide +kernel
theorem dX5_wouldDo_74 : decode cX5_wouldDo 74 = .ok (.iconst 2, 1) := by decide +kernel
theorem dX5_wouldDo_75 : decode cX5_wouldDo 75 = .ok (.iaload, 1) := by decide +kernel
theorem dX5_wouldDo_76 : decode cX5_wouldDo 76 = .ok (.istore 4, 2) := by decide +kernel
theorem dX5_wouldDo_78 : decode cX5_wouldDo 78 = .ok (.aload_n 0, 1) := by decide +kernel
theorem dX5_wouldDo_79 : decode cX5_wouldDo 79 = .ok (.invokevirtual 225, 3) := by decide +kernel
theorem dX5_wouldDo_82 : decode cX5_wouldDo 82 = .ok (.iload 4, 2) := by decide +kernel
theorem dX5_wouldDo_84 : decode cX5_wouldDo 84 = .ok (.ireturn, 1) := by decide +kernel
theorem dX5_ifDone_0 : decode cX5_ifDone 0 = .ok (.iload_n 1, 1) := by decide +kernel
theorem dX5_ifDone_1 : decode cX5_ifDone 1 = .ok (.iconst 0, 1) := by decide +kernel
theorem dX5_ifDone_2 : decode cX5_ifDone 2 = .ok (.iconst 3, 1) := by decide +kernel
theorem dX5_ifDone_3 : decode cX5_ifDone 3 = .ok (.invokestatic 85, 3) := by decide +kernel
theorem dX5_ifDone_6 : decode cX5_ifDone 6 = .ok (.ifCond .eq 42, 3) := by decide +kernel
theorem dX5_ifDone_9 : decode cX5_ifDone 9 = .ok (.iload_n 3, 1) := by decide +kernel
theorem dX5_ifDone_10 : decode cX5_ifDone 10 = .ok (.iconst 0, 1) := by decide +kernel
theorem dX5_ifDone_11 : decode cX5_ifDone 11 = .ok (.iconst 3, 1) := by decide +kernel
theorem dX5_ifDone_12 : decode cX5_ifDone 12 = .ok (.invokestatic 85, 3) := by decide +kernel
theorem dX5_ifDone_15 : decode cX5_ifDone 15 = .ok (.ifCond .eq 33, 3) := by decide +kernel
theorem dX5_ifDone_18 : decode cX5_ifDone 18 = .ok (.iload_n 1, 1) := by decide +kernel
theorem dX5_ifDone_19 : decode cX5_ifDone 19 = .ok (.iconst 1, 1) := by decide +kernel
theorem dX5_ifDone_20 : decode cX5_ifDone 20 = .ok (.if_icmp .ne 16, 3) := by decide +kernel
theorem dX5_ifDone_23 : decode cX5_ifDone 23 = .ok (.iload_n 2, 1) := by decide +kernel
theorem dX5_ifDone_24 : decode cX5_ifDone 24 = .ok (.iconst 0, 1) := by decide +kernel
theorem dX5_ifDone_25 : decode cX5_ifDone 25 = .ok (.bipush 9, 2) := by decide +kernel
theorem dX5_ifDone_27 : decode cX5_ifDone 27 = .ok (.invokestatic 85, 3) := by decide +kernel
theorem dX5_ifDone_30 : decode cX5_ifDone 30 = .ok (.ifCond .eq 18, 3) := by decide +kernel
theorem dX5_ifDone_33 : decode cX5_ifDone 33 = .ok (.goto 11, 3) := by decide +kernel
theorem dX5_ifDone_36 : decode cX5_ifDone 36 = .ok (.aload_n 0, 1) := by decide +kernel
theorem dX5_ifDone_37 : decode cX5_ifDone 37 = .ok (.iload_n 2, 1) := by decide +kernel
theorem dX5_ifDone_38 : decode cX5_ifDone 38 = .ok (.invokevirtual 126, 3) := by decide +kernel
theorem dX5_ifDone_41 : decode cX5_ifDone 41 = .ok (.ifCond .eq 7, 3) := by decide +kernel
theorem dX5_ifDone_44 : decode cX5_ifDone 44 = .ok (.iconst 1, 1) := by decide +kernel
theorem dX5_ifDone_45 : decode cX5_ifDone 45 = .ok (.goto 4, 3) := by decide +kernel
theorem dX5_ifDone_48 : decode cX5_ifDone 48 = .ok (.iconst 0, 1) := by decide +kernel
theorem dX5_ifDone_49 : decode cX5_ifDone 49 = .ok (.istore 4, 2) := by decide +kernel
theorem dX5_ifDone_51 : decode cX5_ifDone 51 = .ok (.aload_n 0, 1) := by decide +kernel
theorem dX5_ifDone_52 : decode cX5_ifDone 52 = .ok (.iload 4, 2) := by decide +kernel
theorem dX5_ifDone_54 : decode cX5_ifDone 54 = .ok (.ifCond .eq 7, 3) := by decide +kernel
theorem dX5_ifDone_57 : decode cX5_ifDone 57 = .ok (.iconst 0, 1) := by decide +kernel
theorem dX5_ifDone_58 : decode cX5_ifDone 58 = .ok (.goto 4, 3) := by decide +kernel
theorem dX5_ifDone_61 : decode cX5_ifDone 61 = .ok (.iconst 1, 1) := by decide +kernel
theorem dX5_ifDone_62 : decode cX5_ifDone 62 = .ok (.putfield 28, 3) := by decide +kernel
theorem dX5_ifDone_65 : decode cX5_ifDone 65 = .ok (.aload_n 0, 1) := by decide +kernel
theorem dX5_ifDone_66 : decode cX5_ifDone 66 = .ok (.getfield 28, 3) := by decide +kernel
theorem dX5_ifDone_69 : decode cX5_ifDone 69 = .ok (.ifCond .le 7, 3) := by decide +kernel
theorem dX5_ifDone_72 : decode cX5_ifDone 72 = .ok (.iconst 0, 1) := by decide +kernel
theorem dX5_ifDone_73 : decode cX5_ifDone 73 = .ok (.goto 10, 3) := by decide +kernel
theorem dX5_ifDone_76 : decode cX5_ifDone 76 = .ok (.aload_n 0, 1) := by decide +kernel
theorem dX5_ifDone_77 : decode cX5_ifDone 77 = .ok (.iload_n 1, 1) := by decide +kernel
theorem dX5_ifDone_78 : decode cX5_ifDone 78 = .ok (.iload_n 2, 1) := by decide +kernel
theorem dX5_ifDone_79 : decode cX5_ifDone 79 = .ok (.iload_n 3, 1) := by decide +kernel
theorem dX5_ifDone_80 : decode cX5_ifDone 80 = .ok (.invokevirtual 228, 3) := by decide +kernel
theorem dX5_ifDone_83 : decode cX5_ifDone 83 = .ok (.ireturn, 1) := by decide +kernel
theorem dX5_wouldEnd_0 : decode cX5_wouldEnd 0 = .ok (.aload_n 0, 1) := by decide +kernel
theorem dX5_wouldEnd_1 : decode cX5_wouldEnd 1 = .ok (.invokevirtual 222, 3) := by decide +kernel
theorem dX5_wouldEnd_4 : decode cX5_wouldEnd 4 = .ok (.iconst 0, 1) := by decide +kernel
theorem dX5_wouldEnd_5 : decode cX5_wouldEnd 5 = .ok (.istore_n 2, 1) := by decide +kernel
theorem dX5_wouldEnd_6 : decode cX5_wouldEnd 6 = .ok (.iload_n 2, 1) := by decide +kernel
theorem dX5_wouldEnd_7 : decode cX5_wouldEnd 7 = .ok (.iload_n 1, 1) := by decide +kernel
theorem dX5_wouldEnd_8 : decode cX5_wouldEnd 8 = .ok (.if_icmp .ge 23, 3) := by decide +kernel
theorem dX5_wouldEnd_11 : decode cX5_wouldEnd 11 = .ok (.aload_n 0, 1) := by decide +kernel
theorem dX5_wouldEnd_12 : decode cX5_wouldEnd 12 = .ok (.getfield 7, 3) := by decide +kernel
theorem dX5_wouldEnd_15 : decode cX5_wouldEnd 15 = .ok (.iconst 2, 1) := by decide +kernel
theorem dX5_wouldEnd_16 : decode cX5_wouldEnd 16 = .ok (.iaload, 1) := by decide +kernel
theorem dX5_wouldEnd_17 : decode cX5_wouldEnd 17 = .ok (.iconst (-1), 1) := by decide +kernel
theorem dX5_wouldEnd_18 : decode cX5_wouldEnd 18 = .ok (.if_icmp .eq 13, 3) := by decide +kernel
theorem dX5_wouldEnd_21 : decode cX5_wouldEnd 21 = .ok (.aload_n 0, 1) := by decide +kernel
theorem dX5_wouldEnd_22 : decode cX5_wouldEnd 22 = .ok (.invokevirtual 123, 3) := by decide +kernel
theorem dX5_wouldEnd_25 : decode cX5_wouldEnd 25 = .ok (.iinc 2 1, 3) := by decide +kernel
theorem dX5_wouldEnd_28 : decode cX5_wouldEnd 28 = .ok (.goto (-22), 3) := by decide +kernel
theorem dX5_wouldEnd_31 : decode cX5_wouldEnd 31 = .ok (.aload_n 0, 1) := by decide +kernel
theorem dX5_wouldEnd_32 : decode cX5_wouldEnd 32 = .ok (.getfield 7, 3) := by decide +kernel
theorem dX5_wouldEnd_35 : decode cX5_wouldEnd 35 = .ok (.iconst 2, 1) := by decide +kernel
theorem dX5_wouldEnd_36 : decode cX5_wouldEnd 36 = .ok (.iaload, 1) := by decide +kernel
theorem dX5_wouldEnd_37 : decode cX5_wouldEnd 37 = .ok (.istore_n 2, 1) := by decide +kernel
theorem dX5_wouldEnd_38 : decode cX5_wouldEnd 38 = .ok (.aload_n 0, 1) := by decide +kernel
theorem dX5_wouldEnd_39 : decode cX5_wouldEnd 39 = .ok (.invokevirtual 225, 3) := by decide +kernel
theorem dX5_wouldEnd_42 : decode cX5_wouldEnd 42 = .ok (.iload_n 2, 1) := by decide +kernel
theorem dX5_wouldEnd_43 : decode cX5_wouldEnd 43 = .ok (.ireturn, 1) := by decide +kernel
theorem dX5_ifEnded_0 : decode cX5_ifEnded 0 = .ok (.aload_n 0, 1) := by decide +kernel
theorem dX5_ifEnded_1 : decode cX5_ifEnded 1 = .ok (.iload_n 1, 1) := by decide +kernel
theorem dX5_ifEnded_2 : decode cX5_ifEnded 2 = .ok (.iconst 0, 1) := by decide +kernel
theorem dX5_ifEnded_3 : decode cX5_ifEnded 3 = .ok (.bipush 40, 2) := by decide +kernel
theorem dX5_ifEnded_5 : decode cX5_ifEnded 5 = .ok (.invokestatic 85, 3) := by decide +kernel
theorem dX5_ifEnded_8 : decode cX5_ifEnded 8 = .ok (.ifCond .eq 7, 3) := by decide +kernel
theorem dX5_ifEnded_11 : decode cX5_ifEnded 11 = .ok (.iconst 0, 1) := by decide +kernel
theorem dX5_ifEnded_12 : decode cX5_ifEnded 12 = .ok (.goto 4, 3) := by decide +kernel
theorem dX5_ifEnded_15 : decode cX5_ifEnded 15 = .ok (.iconst 1, 1) := by decide +kernel
theorem dX5_ifEnded_16 : decode cX5_ifEnded 16 = .ok (.putfield 28, 3) := by decide +kernel
theorem dX5_ifEnded_19 : decode cX5_ifEnded 19 = .ok (.aload_n 0, 1) := by decide +kernel
theorem dX5_ifEnded_20 : decode cX5_ifEnded 20 = .ok (.getfield 28, 3) := by decide +kernel
theorem dX5_ifEnded_23 : decode cX5_ifEnded 23 = .ok (.ifCond .le 7, 3) := by decide +kernel
theorem dX5_ifEnded_26 : decode cX5_ifEnded 26 = .ok (.iconst 0, 1) := by decide +kernel
theorem dX5_ifEnded_27 : decode cX5_ifEnded 27 = .ok (.goto 8, 3) := by decide +kernel
theorem dX5_ifEnded_30 : decode cX5_ifEnded 30 = .ok (.aload_n 0, 1) := by decide +kernel
theorem dX5_ifEnded_31 : decode cX5_ifEnded 31 = .ok (.iload_n 1, 1) := by decide +kernel
theorem dX5_ifEnded_32 : decode cX5_ifEnded 32 = .ok (.invokevirtual 232, 3) := by decide +kernel
theorem dX5_ifEnded_35 : decode cX5_ifEnded 35 = .ok (.ireturn, 1) := by decide +kernel
theorem dX5_best_0 : decode cX5_best 0 = .ok (.iconst (-1), 1) := by decide +kernel
theorem dX5_best_1 : decode cX5_best 1 = .ok (.istore_n 1, 1) := by decide +kernel
theorem dX5_best_2 : decode cX5_best 2 = .ok (.iconst (-1), 1) := by decide +kernel
theorem dX5_best_3 : decode cX5_best 3 = .ok (.istore_n 2, 1) := by decide +kernel
theorem dX5_best_4 : decode cX5_best 4 = .ok (.iconst 0, 1) := by decide +kernel
theorem dX5_best_5 : decode cX5_best 5 = .ok (.istore_n 3, 1) := by decide +kernel
theorem dX5_best_6 : decode cX5_best 6 = .ok (.iload_n 3, 1) := by decide +kernel
theorem dX5_best_7 : decode cX5_best 7 = .ok (.aload_n 0, 1) := by decide +kernel
theorem dX5_best_8 : decode cX5_best 8 = .ok (.getfield 7, 3) := by decide +kernel
theorem dX5_best_11 : decode cX5_best 11 = .ok (.iconst 0, 1) := by decide +kernel
theorem dX5_best_12 : decode cX5_best 12 = .ok (.iaload, 1) := by decide +kernel
theorem dX5_best_13 : decode cX5_best 13 = .ok (.if_icmp .ge 103, 3) := by decide +kernel
theorem dX5_best_16 : decode cX5_best 16 = .ok (.aload_n 0, 1) := by decide +kernel
theorem dX5_best_17 : decode cX5_best 17 = .ok (.getfield 7, 3) := by decide +kernel
theorem dX5_best_20 : decode cX5_best 20 = .ok (.iconst 2, 1) := by decide +kernel
theorem dX5_best_21 : decode cX5_best 21 = .ok (.iaload, 1) := by decide +kernel
theorem dX5_best_22 : decode cX5_best 22 = .ok (.iconst (-1), 1) := by decide +kernel
theorem dX5_best_23 : decode cX5_best 23 = .ok (.if_icmp .eq 27, 3) := by decide +kernel
theorem dX5_best_26 : decode cX5_best 26 = .ok (.aload_n 0, 1) := by decide +kernel
theorem dX5_best_27 : decode cX5_best 27 = .ok (.iload_n 3, 1) := by decide +kernel
theorem dX5_best_28 : decode cX5_best 28 = .ok (.iconst 0, 1) := by decide +kernel
theorem dX5_best_29 : decode cX5_best 29 = .ok (.invokevirtual 32, 3) := by decide +kernel
theorem dX5_best_32 : decode cX5_best 32 = .ok (.aload_n 0, 1) := by decide +kernel
theorem dX5_best_33 : decode cX5_best 33 = .ok (.aload_n 0, 1) := by decide +kernel
theorem dX5_best_34 : decode cX5_best 34 = .ok (.getfield 7, 3) := by decide +kernel
theorem dX5_best_37 : decode cX5_best 37 = .ok (.iconst 2, 1) := by decide +kernel
theorem dX5_best_38 : decode cX5_best 38 = .ok (.iaload, 1) := by decide +kernel
theorem dX5_best_39 : decode cX5_best 39 = .ok (.iconst 0, 1) := by decide +kernel
theorem dX5_best_40 : decode cX5_best 40 = .ok (.invokevirtual 32, 3) := by decide +kernel
theorem dX5_best_43 : decode cX5_best 43 = .ok (.if_icmp .eq 7, 3) := by decide +kernel
theorem dX5_best_46 : decode cX5_best 46 = .ok (.iconst 1, 1) := by decide +kernel
theorem dX5_best_47 : decode cX5_best 47 = .ok (.goto 4, 3) := by decide +kernel
theorem dX5_best_50 : decode cX5_best 50 = .ok (.iconst 0, 1) := by decide +kernel
theorem dX5_best_51 : decode cX5_best 51 = .ok (.istore 4, 2) := by decide +kernel
theorem dX5_best_53 : decode cX5_best 53 = .ok (.iload 4, 2) := by decide +kernel
theorem dX5_best_55 : decode cX5_best 55 = .ok (.ifCond .eq 55, 3) := by decide +kernel
theorem dX5_best_58 : decode cX5_best 58 = .ok (.aload_n 0, 1) := by decide +kernel
theorem dX5_best_59 : decode cX5_best 59 = .ok (.iconst 0, 1) := by decide +kernel
theorem dX5_best_60 : decode cX5_best 60 = .ok (.iload_n 3, 1) := by decide +kernel
theorem dX5_best_61 : decode cX5_best 61 = .ok (.invokevirtual 129, 3) := by decide +kernel
theorem dX5_best_64 : decode cX5_best 64 = .ok (.ifCond .eq 46, 3) := by decide +kernel
theorem dX5_best_67 : decode cX5_best 67 = .ok (.aload_n 0, 1) := by decide +kernel
theorem dX5_best_68 : decode cX5_best 68 = .ok (.invokevirtual 222, 3) := by decide +kernel
theorem dX5_best_71 : decode cX5_best 71 = .ok (.aload_n 0, 1) := by decide +kernel
theorem dX5_best_72 : decode cX5_best 72 = .ok (.iconst 0, 1) := by decide +kernel
theorem dX5_best_73 : decode cX5_best 73 = .ok (.iload_n 3, 1) := by decide +kernel
theorem dX5_best_74 : decode cX5_best 74 = .ok (.iconst 0, 1) := by decide +kernel
theorem dX5_best_75 : decode cX5_best 75 = .ok (.iconst 0, 1) := by decide +kernel
theorem dX5_best_76 : decode cX5_best 76 = .ok (.invokevirtual 135, 3) := by decide +kernel
theorem dX5_best_79 : decode cX5_best 79 = .ok (.istore 5, 2) := by decide +kernel
theorem dX5_best_81 : decode cX5_best 81 = .ok (.aload_n 0, 1) := by decide +kernel
theorem dX5_best_82 : decode cX5_best 82 = .ok (.invokevirtual 225, 3) := by decide +kernel
theorem dX5_best_85 : decode cX5_best 85 = .ok (.iload 5, 2) := by decide +kernel
theorem dX5_best_87 : decode cX5_best 87 = .ok (.iload_n 2, 1) := by decide +kernel
theorem dX5_best_88 : decode cX5_best 88 = .ok (.if_icmp .le 7, 3) := by decide +kernel
theorem dX5_best_91 : decode cX5_best 91 = .ok (.iload_n 3, 1) := by decide +kernel
theorem dX5_best_92 : decode cX5_best 92 = .ok (.goto 4, 3) := by decide +kernel
theorem dX5_best_95 : decode cX5_best 95 = .ok (.iload_n 1, 1) := by decide +kernel
theorem dX5_best_96 : decode cX5_best 96 = .ok (.istore_n 1, 1) := by decide +kernel
theorem dX5_best_97 : decode cX5_best 97 = .ok (.iload 5, 2) := by decide +kernel
theorem dX5_best_99 : decode cX5_best 99 = .ok (.iload_n 2, 1) := by decide +kernel
theorem dX5_best_100 : decode cX5_best 100 = .ok (.if_icmp .le 8, 3) := by decide +kernel
theorem dX5_best_103 : decode cX5_best 103 = .ok (.iload 5, 2) := by decide +kernel
theorem dX5_best_105 : decode cX5_best 105 = .ok (.goto 4, 3) := by decide +kernel
theorem dX5_best_108 : decode cX5_best 108 = .ok (.iload_n 2, 1) := by decide +kernel
theorem dX5_best_109 : decode cX5_best 109 = .ok (.istore_n 2, 1) := by decide +kernel
theorem dX5_best_110 : decode cX5_best 110 = .ok (.iinc 3 1, 3) := by decide +kernel
theorem dX5_best_113 : decode cX5_best 113 = .ok (.goto (-107), 3) := by decide +kernel
theorem dX5_best_116 : decode cX5_best 116 = .ok (.iload_n 1, 1) := by decide +kernel
theorem dX5_best_117 : decode cX5_best 117 = .ok (.ireturn, 1) := by decide +kernel
theorem dX5_bestStrike_0 : decode cX5_bestStrike 0 = .ok (.aload_n 0, 1) := by decide +kernel
theorem dX5_bestStrike_1 : decode cX5_bestStrike 1 = .ok (.iconst 0, 1) := by decide +kernel
theorem dX5_bestStrike_2 : decode cX5_bestStrike 2 = .ok (.putfield 28, 3) := by decide +kernel
theorem dX5_bestStrike_5 : decode cX5_bestStrike 5 = .ok (.aload_n 0, 1) := by decide +kernel
theorem dX5_bestStrike_6 : decode cX5_bestStrike 6 = .ok (.invokevirtual 235, 3) := by decide +kernel
theorem dX5_bestStrike_9 : decode cX5_bestStrike 9 = .ok (.ireturn, 1) := by decide +kernel
theorem dX5_share_0 : decode cX5_share 0 = .ok (.aload_n 0, 1) := by decide +kernel
theorem dX5_share_1 : decode cX5_share 1 = .ok (.iconst 0, 1) := by decide +kernel
theorem dX5_share_2 : decode cX5_share 2 = .ok (.invokevirtual 216, 3) := by decide +kernel
theorem dX5_share_5 : decode cX5_share 5 = .ok (.aload_n 0, 1) := by decide +kernel
theorem dX5_share_6 : decode cX5_share 6 = .ok (.iconst 1, 1) := by decide +kernel
theorem dX5_share_7 : decode cX5_share 7 = .ok (.invokevirtual 216, 3) := by decide +kernel
theorem dX5_share_10 : decode cX5_share 10 = .ok (.iadd, 1) := by decide +kernel
theorem dX5_share_11 : decode cX5_share 11 = .ok (.istore_n 1, 1) := by decide +kernel
theorem dX5_share_12 : decode cX5_share 12 = .ok (.iload_n 1, 1) := by decide +kernel
theorem dX5_share_13 : decode cX5_share 13 = .ok (.ifCond .ne 9, 3) := by decide +kernel
theorem dX5_share_16 : decode cX5_share 16 = .ok (.ldc2_w 238, 3) := by decide +kernel
theorem dX5_share_19 : decode cX5_share 19 = .ok (.goto 12, 3) := by decide +kernel
theorem dX5_share_22 : decode cX5_share 22 = .ok (.aload_n 0, 1) := by decide +kernel
theorem dX5_share_23 : decode cX5_share 23 = .ok (.iconst 0, 1) := by decide +kernel
theorem dX5_share_24 : decode cX5_share 24 = .ok (.invokevirtual 216, 3) := by decide +kernel
theorem dX5_share_27 : decode cX5_share 27 = .ok (.i2d, 1) := by decide +kernel
theorem dX5_share_28 : decode cX5_share 28 = .ok (.iload_n 1, 1) := by decide +kernel
theorem dX5_share_29 : decode cX5_share 29 = .ok (.i2d, 1) := by decide +kernel
theorem dX5_share_30 : decode cX5_share 30 = .ok (.ddiv, 1) := by decide +kernel
theorem dX5_share_31 : decode cX5_share 31 = .ok (.dreturn, 1) := by decide +kernel
theorem dX5_standing_0 : decode cX5_standing 0 = .ok (.aload_n 0, 1) := by decide +kernel
theorem dX5_standing_1 : decode cX5_standing 1 = .ok (.iconst 0, 1) := by decide +kernel
theorem dX5_standing_2 : decode cX5_standing 2 = .ok (.putfield 28, 3) := by decide +kernel
theorem dX5_standing_5 : decode cX5_standing 5 = .ok (.aload_n 0, 1) := by decide +kernel
theorem dX5_standing_6 : decode cX5_standing 6 = .ok (.invokevirtual 240, 3) := by decide +kernel
theorem dX5_standing_9 : decode cX5_standing 9 = .ok (.dreturn, 1) := by decide +kernel
theorem dX5_bitsOf_0 : decode cX5_bitsOf 0 = .ok (.dload_n 0, 1) := by decide +kernel
theorem dX5_bitsOf_1 : decode cX5_bitsOf 1 = .ok (.dconst 0, 1) := by decide +kernel
theorem dX5_bitsOf_2 : decode cX5_bitsOf 2 = .ok (.dcmp .l, 1) := by decide +kernel
theorem dX5_bitsOf_3 : decode cX5_bitsOf 3 = .ok (.ifCond .ne 5, 3) := by decide +kernel
theorem dX5_bitsOf_6 : decode cX5_bitsOf 6 = .ok (.lconst 0, 1) := by decide +kernel
theorem dX5_bitsOf_7 : decode cX5_bitsOf 7 = .ok (.lreturn, 1) := by decide +kernel
theorem dX5_bitsOf_8 : decode cX5_bitsOf 8 = .ok (.dload_n 0, 1) := by decide +kernel
theorem dX5_bitsOf_9 : decode cX5_bitsOf 9 = .ok (.dstore_n 2, 1) := by decide +kernel
theorem dX5_bitsOf_10 : decode cX5_bitsOf 10 = .ok (.ldc2_w 244, 3) := by decide +kernel
theorem dX5_bitsOf_13 : decode cX5_bitsOf 13 = .ok (.lstore 4, 2) := by decide +kernel
theorem dX5_bitsOf_15 : decode cX5_bitsOf 15 = .ok (.dload_n 2, 1) := by decide +kernel
theorem dX5_bitsOf_16 : decode cX5_bitsOf 16 = .ok (.ldc2_w 246, 3) := by decide +kernel
theorem dX5_bitsOf_19 : decode cX5_bitsOf 19 = .ok (.dcmp .l, 1) := by decide +kernel
theorem dX5_bitsOf_20 : decode cX5_bitsOf 20 = .ok (.ifCond .lt 18, 3) := by decide +kernel
theorem dX5_bitsOf_23 : decode cX5_bitsOf 23 = .ok (.dload_n 2, 1) := by decide +kernel
theorem dX5_bitsOf_24 : decode cX5_bitsOf 24 = .ok (.ldc2_w 246, 3) := by decide +kernel
theorem dX5_bitsOf_27 : decode cX5_bitsOf 27 = .ok (.ddiv, 1) := by decide +kernel
theorem dX5_bitsOf_28 : decode cX5_bitsOf 28 = .ok (.dstore_n 2, 1) := by decide +kernel
theorem dX5_bitsOf_29 : decode cX5_bitsOf 29 = .ok (.lload 4, 2) := by decide +kernel
theorem dX5_bitsOf_31 : decode cX5_bitsOf 31 = .ok (.lconst 1, 1) := by decide +kernel
theorem dX5_bitsOf_32 : decode cX5_bitsOf 32 = .ok (.ladd, 1) := by decide +kernel
theorem dX5_bitsOf_33 : decode cX5_bitsOf 33 = .ok (.lstore 4, 2) := by decide +kernel
theorem dX5_bitsOf_35 : decode cX5_bitsOf 35 = .ok (.goto (-20), 3) := by decide +kernel
theorem dX5_bitsOf_38 : decode cX5_bitsOf 38 = .ok (.dload_n 2, 1) := by decide +kernel
theorem dX5_bitsOf_39 : decode cX5_bitsOf 39 = .ok (.dconst 1, 1) := by decide +kernel
theorem dX5_bitsOf_40 : decode cX5_bitsOf 40 = .ok (.dcmp .g, 1) := by decide +kernel
theorem dX5_bitsOf_41 : decode cX5_bitsOf 41 = .ok (.ifCond .ge 18, 3) := by decide +kernel
theorem dX5_bitsOf_44 : decode cX5_bitsOf 44 = .ok (.dload_n 2, 1) := by decide +kernel
theorem dX5_bitsOf_45 : decode cX5_bitsOf 45 = .ok (.ldc2_w 246, 3) := by decide +kernel
theorem dX5_bitsOf_48 : decode cX5_bitsOf 48 = .ok (.dmul, 1) := by decide +kernel
theorem dX5_bitsOf_49 : decode cX5_bitsOf 49 = .ok (.dstore_n 2, 1) := by decide +kernel
theorem dX5_bitsOf_50 : decode cX5_bitsOf 50 = .ok (.lload 4, 2) := by decide +kernel
theorem dX5_bitsOf_52 : decode cX5_bitsOf 52 = .ok (.lconst 1, 1) := by decide +kernel
theorem dX5_bitsOf_53 : decode cX5_bitsOf 53 = .ok (.lsub, 1) := by decide +kernel
theorem dX5_bitsOf_54 : decode cX5_bitsOf 54 = .ok (.lstore 4, 2) := by decide +kernel
theorem dX5_bitsOf_56 : decode cX5_bitsOf 56 = .ok (.goto (-18), 3) := by decide +kernel
theorem dX5_bitsOf_59 : decode cX5_bitsOf 59 = .ok (.lload 4, 2) := by decide +kernel
theorem dX5_bitsOf_61 : decode cX5_bitsOf 61 = .ok (.bipush 52, 2) := by decide +kernel
theorem dX5_bitsOf_63 : decode cX5_bitsOf 63 = .ok (.lshl, 1) := by decide +kernel
theorem dX5_bitsOf_64 : decode cX5_bitsOf 64 = .ok (.dload_n 2, 1) := by decide +kernel
theorem dX5_bitsOf_65 : decode cX5_bitsOf 65 = .ok (.ldc2_w 248, 3) := by decide +kernel
theorem dX5_bitsOf_68 : decode cX5_bitsOf 68 = .ok (.dmul, 1) := by decide +kernel
theorem dX5_bitsOf_69 : decode cX5_bitsOf 69 = .ok (.d2l, 1) := by decide +kernel
theorem dX5_bitsOf_70 : decode cX5_bitsOf 70 = .ok (.ladd, 1) := by decide +kernel
theorem dX5_bitsOf_71 : decode cX5_bitsOf 71 = .ok (.ldc2_w 250, 3) := by decide +kernel
theorem dX5_bitsOf_74 : decode cX5_bitsOf 74 = .ok (.lsub, 1) := by decide +kernel
theorem dX5_bitsOf_75 : decode cX5_bitsOf 75 = .ok (.lreturn, 1) := by decide +kernel
theorem dX5_mix_0 : decode cX5_mix 0 = .ok (.aload_n 0, 1) := by decide +kernel
theorem dX5_mix_1 : decode cX5_mix 1 = .ok (.ldc2_w 252, 3) := by decide +kernel
theorem dX5_mix_4 : decode cX5_mix 4 = .ok (.aload_n 0, 1) := by decide +kernel
theorem dX5_mix_5 : decode cX5_mix 5 = .ok (.getfield 254, 3) := by decide +kernel
theorem dX5_mix_8 : decode cX5_mix 8 = .ok (.lmul, 1) := by decide +kernel
theorem dX5_mix_9 : decode cX5_mix 9 = .ok (.lload_n 1, 1) := by decide +kernel
theorem dX5_mix_10 : decode cX5_mix 10 = .ok (.ladd, 1) := by decide +kernel
theorem dX5_mix_11 : decode cX5_mix 11 = .ok (.putfield 254, 3) := by decide +kernel
theorem dX5_mix_14 : decode cX5_mix 14 = .ok (.return_, 1) := by decide +kernel
theorem dX5_mixDone_0 : decode cX5_mixDone 0 = .ok (.iconst 0, 1) := by decide +kernel
theorem dX5_mixDone_1 : decode cX5_mixDone 1 = .ok (.istore_n 3, 1) := by decide +kernel
theorem dX5_mixDone_2 : decode cX5_mixDone 2 = .ok (.iload_n 3, 1) := by decide +kernel
theorem dX5_mixDone_3 : decode cX5_mixDone 3 = .ok (.iconst 3, 1) := by decide +kernel
theorem dX5_mixDone_4 : decode cX5_mixDone 4 = .ok (.if_icmp .gt 21, 3) := by decide +kernel
theorem dX5_mixDone_7 : decode cX5_mixDone 7 = .ok (.aload_n 0, 1) := by decide +kernel
theorem dX5_mixDone_8 : decode cX5_mixDone 8 = .ok (.aload_n 0, 1) := by decide +kernel
theorem dX5_mixDone_9 : decode cX5_mixDone 9 = .ok (.iload_n 1, 1) := by decide +kernel
theorem dX5_mixDone_10 : decode cX5_mixDone 10 = .ok (.iload_n 2, 1) := by decide +kernel
theorem dX5_mixDone_11 : decode cX5_mixDone 11 = .ok (.iload_n 3, 1) := by decide +kernel
theorem dX5_mixDone_12 : decode cX5_mixDone 12 = .ok (.invokevirtual 228, 3) := by decide +kernel
theorem dX5_mixDone_15 : decode cX5_mixDone 15 = .ok (.i2l, 1) := by decide +kernel
theorem dX5_mixDone_16 : decode cX5_mixDone 16 = .ok (.invokevirtual 258, 3) := by decide +kernel
theorem dX5_mixDone_19 : decode cX5_mixDone 19 = .ok (.iinc 3 1, 3) := by decide +kernel
theorem dX5_mixDone_22 : decode cX5_mixDone 22 = .ok (.goto (-20), 3) := by decide +kernel
theorem dX5_mixDone_25 : decode cX5_mixDone 25 = .ok (.return_, 1) := by decide +kernel
theorem dX5_mixFighter_0 : decode cX5_mixFighter 0 = .ok (.iconst 0, 1) := by decide +kernel
theorem dX5_mixFighter_1 : decode cX5_mixFighter 1 = .ok (.istore_n 2, 1) := by decide +kernel
theorem dX5_mixFighter_2 : decode cX5_mixFighter 2 = .ok (.iload_n 2, 1) := by decide +kernel
theorem dX5_mixFighter_3 : decode cX5_mixFighter 3 = .ok (.bipush 13, 2) := by decide +kernel
theorem dX5_mixFighter_5 : decode cX5_mixFighter 5 = .ok (.if_icmp .gt 20, 3) := by decide +kernel
theorem dX5_mixFighter_8 : decode cX5_mixFighter 8 = .ok (.aload_n 0, 1) := by decide +kernel
theorem dX5_mixFighter_9 : decode cX5_mixFighter 9 = .ok (.aload_n 0, 1) := by decide +kernel
theorem dX5_mixFighter_10 : decode cX5_mixFighter 10 = .ok (.iload_n 1, 1) := by decide +kernel
theorem dX5_mixFighter_11 : decode cX5_mixFighter 11 = .ok (.iload_n 2, 1) := by decide +kernel
theorem dX5_mixFighter_12 : decode cX5_mixFighter 12 = .ok (.invokevirtual 203, 3) := by decide +kernel
theorem dX5_mixFighter_15 : decode cX5_mixFighter 15 = .ok (.i2l, 1) := by decide +kernel
theorem dX5_mixFighter_16 : decode cX5_mixFighter 16 = .ok (.invokevirtual 258, 3) := by decide +kernel
theorem dX5_mixFighter_19 : decode cX5_mixFighter 19 = .ok (.iinc 2 1, 3) := by decide +kernel
theorem dX5_mixFighter_22 : decode cX5_mixFighter 22 = .ok (.goto (-20), 3) := by decide +kernel
theorem dX5_mixFighter_25 : decode cX5_mixFighter 25 = .ok (.iconst 0, 1) := by decide +kernel
theorem dX5_mixFighter_26 : decode cX5_mixFighter 26 = .ok (.istore_n 2, 1) := by decide +kernel
theorem dX5_mixFighter_27 : decode cX5_mixFighter 27 = .ok (.iload_n 2, 1) := by decide +kernel
theorem dX5_mixFighter_28 : decode cX5_mixFighter 28 = .ok (.iconst 3, 1) := by decide +kernel
theorem dX5_mixFighter_29 : decode cX5_mixFighter 29 = .ok (.if_icmp .gt 23, 3) := by decide +kernel
theorem dX5_mixFighter_32 : decode cX5_mixFighter 32 = .ok (.aload_n 0, 1) := by decide +kernel
theorem dX5_mixFighter_33 : decode cX5_mixFighter 33 = .ok (.aload_n 0, 1) := by decide +kernel
theorem dX5_mixFighter_34 : decode cX5_mixFighter 34 = .ok (.iload_n 1, 1) := by decide +kernel
theorem dX5_mixFighter_35 : decode cX5_mixFighter 35 = .ok (.bipush 7, 2) := by decide +kernel
theorem dX5_mixFighter_37 : decode cX5_mixFighter 37 = .ok (.iload_n 2, 1) := by decide +kernel
theorem dX5_mixFighter_38 : decode cX5_mixFighter 38 = .ok (.iadd, 1) := by decide +kernel
theorem dX5_mixFighter_39 : decode cX5_mixFighter 39 = .ok (.invokevirtual 32, 3) := by decide +kernel
theorem dX5_mixFighter_42 : decode cX5_mixFighter 42 = .ok (.i2l, 1) := by decide +kernel
theorem dX5_mixFighter_43 : decode cX5_mixFighter 43 = .ok (.invokevirtual 258, 3) := by decide +kernel
theorem dX5_mixFighter_46 : decode cX5_mixFighter 46 = .ok (.iinc 2 1, 3) := by decide +kernel
theorem dX5_mixFighter_49 : decode cX5_mixFighter 49 = .ok (.goto (-22), 3) := by decide +kernel
theorem dX5_mixFighter_52 : decode cX5_mixFighter 52 = .ok (.aload_n 0, 1) := by decide +kernel
theorem dX5_mixFighter_53 : decode cX5_mixFighter 53 = .ok (.iconst 0, 1) := by decide +kernel
theorem dX5_mixFighter_54 : decode cX5_mixFighter 54 = .ok (.iload_n 1, 1) := by decide +kernel
theorem dX5_mixFighter_55 : decode cX5_mixFighter 55 = .ok (.invokevirtual 262, 3) := by decide +kernel
theorem dX5_mixFighter_58 : decode cX5_mixFighter 58 = .ok (.aload_n 0, 1) := by decide +kernel
theorem dX5_mixFighter_59 : decode cX5_mixFighter 59 = .ok (.iconst 2, 1) := by decide +kernel
theorem dX5_mixFighter_60 : decode cX5_mixFighter 60 = .ok (.iload_n 1, 1) := by decide +kernel
theorem dX5_mixFighter_61 : decode cX5_mixFighter 61 = .ok (.invokevirtual 262, 3) := by decide +kernel
theorem dX5_mixFighter_64 : decode cX5_mixFighter 64 = .ok (.aload_n 0, 1) := by decide +kernel
theorem dX5_mixFighter_65 : decode cX5_mixFighter 65 = .ok (.iconst 3, 1) := by decide +kernel
theorem dX5_mixFighter_66 : decode cX5_mixFighter 66 = .ok (.iload_n 1, 1) := by decide +kernel
theorem dX5_mixFighter_67 : decode cX5_mixFighter 67 = .ok (.invokevirtual 262, 3) := by decide +kernel
theorem dX5_mixFighter_70 : decode cX5_mixFighter 70 = .ok (.return_, 1) := by decide +kernel
theorem dX5_digest_0 : decode cX5_digest 0 = .ok (.aload_n 0, 1) := by decide +kernel
theorem dX5_digest_1 : decode cX5_digest 1 = .ok (.iconst 0, 1) := by decide +kernel
theorem dX5_digest_2 : decode cX5_digest 2 = .ok (.putfield 28, 3) := by decide +kernel
theorem dX5_digest_5 : decode cX5_digest 5 = .ok (.aload_n 0, 1) := by decide +kernel
theorem dX5_digest_6 : decode cX5_digest 6 = .ok (.ldc2_w 265, 3) := by decide +kernel
theorem dX5_digest_9 : decode cX5_digest 9 = .ok (.putfield 254, 3) := by decide +kernel
theorem dX5_digest_12 : decode cX5_digest 12 = .ok (.iconst 0, 1) := by decide +kernel
theorem dX5_digest_13 : decode cX5_digest 13 = .ok (.istore_n 1, 1) := by decide +kernel
theorem dX5_digest_14 : decode cX5_digest 14 = .ok (.iload_n 1, 1) := by decide +kernel
theorem dX5_digest_15 : decode cX5_digest 15 = .ok (.bipush 12, 2) := by decide +kernel
theorem dX5_digest_17 : decode cX5_digest 17 = .ok (.if_icmp .gt 19, 3) := by decide +kernel
theorem dX5_digest_20 : decode cX5_digest 20 = .ok (.aload_n 0, 1) := by decide +kernel
theorem dX5_digest_21 : decode cX5_digest 21 = .ok (.aload_n 0, 1) := by decide +kernel
theorem dX5_digest_22 : decode cX5_digest 22 = .ok (.iload_n 1, 1) := by decide +kernel
theorem dX5_digest_23 : decode cX5_digest 23 = .ok (.invokevirtual 219, 3) := by decide +kernel
theorem dX5_digest_26 : decode cX5_digest 26 = .ok (.i2l, 1) := by decide +kernel
theorem dX5_digest_27 : decode cX5_digest 27 = .ok (.invokevirtual 258, 3) := by decide +kernel
theorem dX5_digest_30 : decode cX5_digest 30 = .ok (.iinc 1 1, 3) := by decide +kernel
theorem dX5_digest_33 : decode cX5_digest 33 = .ok (.goto (-19), 3) := by decide +kernel
theorem dX5_digest_36 : decode cX5_digest 36 = .ok (.iconst 0, 1) := by decide +kernel
theorem dX5_digest_37 : decode cX5_digest 37 = .ok (.istore_n 1, 1) := by decide +kernel
theorem dX5_digest_38 : decode cX5_digest 38 = .ok (.iload_n 1, 1) := by decide +kernel
theorem dX5_digest_39 : decode cX5_digest 39 = .ok (.aload_n 0, 1) := by decide +kernel
theorem dX5_digest_40 : decode cX5_digest 40 = .ok (.getfield 7, 3) := by decide +kernel
theorem dX5_digest_43 : decode cX5_digest 43 = .ok (.iconst 0, 1) := by decide +kernel
theorem dX5_digest_44 : decode cX5_digest 44 = .ok (.iaload, 1) := by decide +kernel
theorem dX5_digest_45 : decode cX5_digest 45 = .ok (.if_icmp .ge 14, 3) := by decide +kernel
theorem dX5_digest_48 : decode cX5_digest 48 = .ok (.aload_n 0, 1) := by decide +kernel
theorem dX5_digest_49 : decode cX5_digest 49 = .ok (.iload_n 1, 1) := by decide +kernel
theorem dX5_digest_50 : decode cX5_digest 50 = .ok (.invokevirtual 267, 3) := by decide +kernel
theorem dX5_digest_53 : decode cX5_digest 53 = .ok (.iinc 1 1, 3) := by decide +kernel
theorem dX5_digest_56 : decode cX5_digest 56 = .ok (.goto (-18), 3) := by decide +kernel
theorem dX5_digest_59 : decode cX5_digest 59 = .ok (.iconst 0, 1) := by decide +kernel
theorem dX5_digest_60 : decode cX5_digest 60 = .ok (.istore_n 1, 1) := by decide +kernel
theorem dX5_digest_61 : decode cX5_digest 61 = .ok (.iload_n 1, 1) := by decide +kernel
theorem dX5_digest_62 : decode cX5_digest 62 = .ok (.bipush 9, 2) := by decide +kernel
theorem dX5_digest_64 : decode cX5_digest 64 = .ok (.if_icmp .gt 19, 3) := by decide +kernel
theorem dX5_digest_67 : decode cX5_digest 67 = .ok (.aload_n 0, 1) := by decide +kernel
theorem dX5_digest_68 : decode cX5_digest 68 = .ok (.aload_n 0, 1) := by decide +kernel
theorem dX5_digest_69 : decode cX5_digest 69 = .ok (.iload_n 1, 1) := by decide +kernel
theorem dX5_digest_70 : decode cX5_digest 70 = .ok (.invokevirtual 206, 3) := by decide +kernel
theorem dX5_digest_73 : decode cX5_digest 73 = .ok (.i2l, 1) := by decide +kernel
theorem dX5_digest_74 : decode cX5_digest 74 = .ok (.invokevirtual 258, 3) := by decide +kernel
theorem dX5_digest_77 : decode cX5_digest 77 = .ok (.iinc 1 1, 3) := by decide +kernel
theorem dX5_digest_80 : decode cX5_digest 80 = .ok (.goto (-19), 3) := by decide +kernel
theorem dX5_digest_83 : decode cX5_digest 83 = .ok (.aload_n 0, 1) := by decide +kernel
theorem dX5_digest_84 : decode cX5_digest 84 = .ok (.iconst 1, 1) := by decide +kernel
theorem dX5_digest_85 : decode cX5_digest 85 = .ok (.iconst 5, 1) := by decide +kernel
theorem dX5_digest_86 : decode cX5_digest 86 = .ok (.invokevirtual 262, 3) := by decide +kernel
theorem dX5_digest_89 : decode cX5_digest 89 = .ok (.iconst 0, 1) := by decide +kernel
theorem dX5_digest_90 : decode cX5_digest 90 = .ok (.istore_n 1, 1) := by decide +kernel
theorem dX5_digest_91 : decode cX5_digest 91 = .ok (.iload_n 1, 1) := by decide +kernel
theorem dX5_digest_92 : decode cX5_digest 92 = .ok (.bipush 12, 2) := by decide +kernel
theorem dX5_digest_94 : decode cX5_digest 94 = .ok (.if_icmp .gt 19, 3) := by decide +kernel
theorem dX5_digest_97 : decode cX5_digest 97 = .ok (.aload_n 0, 1) := by decide +kernel
theorem dX5_digest_98 : decode cX5_digest 98 = .ok (.aload_n 0, 1) := by decide +kernel
theorem dX5_digest_99 : decode cX5_digest 99 = .ok (.iload_n 1, 1) := by decide +kernel
theorem dX5_digest_100 : decode cX5_digest 100 = .ok (.invokevirtual 232, 3) := by decide +kernel
theorem dX5_digest_103 : decode cX5_digest 103 = .ok (.i2l, 1) := by decide +kernel
theorem dX5_digest_104 : decode cX5_digest 104 = .ok (.invokevirtual 258, 3) := by decide +kernel
theorem dX5_digest_107 : decode cX5_digest 107 = .ok (.iinc 1 1, 3) := by decide +kernel
theorem dX5_digest_110 : decode cX5_digest 110 = .ok (.goto (-19), 3) := by decide +kernel
theorem dX5_digest_113 : decode cX5_digest 113 = .ok (.aload_n 0, 1) := by decide +kernel
theorem dX5_digest_114 : decode cX5_digest 114 = .ok (.aload_n 0, 1) := by decide +kernel
theorem dX5_digest_115 : decode cX5_digest 115 = .ok (.invokevirtual 235, 3) := by decide +kernel
theorem dX5_digest_118 : decode cX5_digest 118 = .ok (.i2l, 1) := by decide +kernel
theorem dX5_digest_119 : decode cX5_digest 119 = .ok (.invokevirtual 258, 3) := by decide +kernel
theorem dX5_digest_122 : decode cX5_digest 122 = .ok (.aload_n 0, 1) := by decide +kernel
theorem dX5_digest_123 : decode cX5_digest 123 = .ok (.aload_n 0, 1) := by decide +kernel
theorem dX5_digest_124 : decode cX5_digest 124 = .ok (.invokevirtual 240, 3) := by decide +kernel
theorem dX5_digest_127 : decode cX5_digest 127 = .ok (.invokestatic 270, 3) := by decide +kernel
theorem dX5_digest_130 : decode cX5_digest 130 = .ok (.invokevirtual 258, 3) := by decide +kernel
theorem dX5_digest_133 : decode cX5_digest 133 = .ok (.aload_n 0, 1) := by decide +kernel
theorem dX5_digest_134 : decode cX5_digest 134 = .ok (.aload_n 0, 1) := by decide +kernel
theorem dX5_digest_135 : decode cX5_digest 135 = .ok (.getfield 157, 3) := by decide +kernel
theorem dX5_digest_138 : decode cX5_digest 138 = .ok (.i2l, 1) := by decide +kernel
theorem dX5_digest_139 : decode cX5_digest 139 = .ok (.invokevirtual 258, 3) := by decide +kernel
theorem dX5_digest_142 : decode cX5_digest 142 = .ok (.iconst 0, 1) := by decide +kernel
theorem dX5_digest_143 : decode cX5_digest 143 = .ok (.istore_n 1, 1) := by decide +kernel
theorem dX5_digest_144 : decode cX5_digest 144 = .ok (.iload_n 1, 1) := by decide +kernel
theorem dX5_digest_145 : decode cX5_digest 145 = .ok (.aload_n 0, 1) := by decide +kernel
theorem dX5_digest_146 : decode cX5_digest 146 = .ok (.getfield 157, 3) := by decide +kernel
theorem dX5_digest_149 : decode cX5_digest 149 = .ok (.if_icmp .ge 20, 3) := by decide +kernel
theorem dX5_digest_152 : decode cX5_digest 152 = .ok (.aload_n 0, 1) := by decide +kernel
theorem dX5_digest_153 : decode cX5_digest 153 = .ok (.aload_n 0, 1) := by decide +kernel
theorem dX5_digest_154 : decode cX5_digest 154 = .ok (.getfield 19, 3) := by decide +kernel
theorem dX5_digest_157 : decode cX5_digest 157 = .ok (.iload_n 1, 1) := by decide +kernel
theorem dX5_digest_158 : decode cX5_digest 158 = .ok (.iaload, 1) := by decide +kernel
theorem dX5_digest_159 : decode cX5_digest 159 = .ok (.i2l, 1) := by decide +kernel
theorem dX5_digest_160 : decode cX5_digest 160 = .ok (.invokevirtual 258, 3) := by decide +kernel
theorem dX5_digest_163 : decode cX5_digest 163 = .ok (.iinc 1 1, 3) := by decide +kernel
theorem dX5_digest_166 : decode cX5_digest 166 = .ok (.goto (-22), 3) := by decide +kernel
theorem dX5_digest_169 : decode cX5_digest 169 = .ok (.aload_n 0, 1) := by decide +kernel
theorem dX5_digest_170 : decode cX5_digest 170 = .ok (.getfield 254, 3) := by decide +kernel
theorem dX5_digest_173 : decode cX5_digest 173 = .ok (.lreturn, 1) := by decide +kernel
theorem dJ9_abs_0f7a4_0 : decode cJ9_abs_0f7a4 0 = .ok (.iload_n 0, 1) := by decide +kernel
theorem dJ9_abs_0f7a4_1 : decode cJ9_abs_0f7a4 1 = .ok (.ifCond .ge 8, 3) := by decide +kernel
theorem dJ9_abs_0f7a4_4 : decode cJ9_abs_0f7a4 4 = .ok (.iload_n 0, 1) := by decide +kernel
theorem dJ9_abs_0f7a4_5 : decode cJ9_abs_0f7a4 5 = .ok (.ineg, 1) := by decide +kernel
theorem dJ9_abs_0f7a4_6 : decode cJ9_abs_0f7a4 6 = .ok (.goto 4, 3) := by decide +kernel
theorem dJ9_abs_0f7a4_9 : decode cJ9_abs_0f7a4 9 = .ok (.iload_n 0, 1) := by decide +kernel
theorem dJ9_abs_0f7a4_10 : decode cJ9_abs_0f7a4 10 = .ok (.ireturn, 1) := by decide +kernel
theorem dJ9_max_7cf53_0 : decode cJ9_max_7cf53 0 = .ok (.iload_n 0, 1) := by decide +kernel
theorem dJ9_max_7cf53_1 : decode cJ9_max_7cf53 1 = .ok (.iload_n 1, 1) := by decide +kernel
theorem dJ9_max_7cf53_2 : decode cJ9_max_7cf53 2 = .ok (.if_icmp .lt 7, 3) := by decide +kernel
theorem dJ9_max_7cf53_5 : decode cJ9_max_7cf53 5 = .ok (.iload_n 0, 1) := by decide +kernel
theorem dJ9_max_7cf53_6 : decode cJ9_max_7cf53 6 = .ok (.goto 4, 3) := by decide +kernel
theorem dJ9_max_7cf53_9 : decode cJ9_max_7cf53 9 = .ok (.iload_n 1, 1) := by decide +kernel
theorem dJ9_max_7cf53_10 : decode cJ9_max_7cf53 10 = .ok (.ireturn, 1) := by decide +kernel
theorem dJ9_min_7cf53_0 : decode cJ9_min_7cf53 0 = .ok (.iload_n 0, 1) := by decide +kernel
theorem dJ9_min_7cf53_1 : decode cJ9_min_7cf53 1 = .ok (.iload_n 1, 1) := by decide +kernel
theorem dJ9_min_7cf53_2 : decode cJ9_min_7cf53 2 = .ok (.if_icmp .gt 7, 3) := by decide +kernel
theorem dJ9_min_7cf53_5 : decode cJ9_min_7cf53 5 = .ok (.iload_n 0, 1) := by decide +kernel
theorem dJ9_min_7cf53_6 : decode cJ9_min_7cf53 6 = .ok (.goto 4, 3) := by decide +kernel
theorem dJ9_min_7cf53_9 : decode cJ9_min_7cf53 9 = .ok (.iload_n 1, 1) := by decide +kernel
theorem dJ9_min_7cf53_10 : decode cJ9_min_7cf53 10 = .ok (.ireturn, 1) := by decide +kernel
theorem dL_come_0 : decode cL_come 0 = .ok (.aload 5, 2) := by decide +kernel
theorem dL_come_2 : decode cL_come 2 = .ok (.iconst 0, 1) := by decide +kernel
theorem dL_come_3 : decode cL_come 3 = .ok (.aload_n 0, 1) := by decide +kernel
theorem dL_come_4 : decode cL_come 4 = .ok (.iload_n 1, 1) := by decide +kernel
theorem dL_come_5 : decode cL_come 5 = .ok (.iload_n 2, 1) := by decide +kernel
theorem dL_come_6 : decode cL_come 6 = .ok (.iload_n 3, 1) := by decide +kernel
theorem dL_come_7 : decode cL_come 7 = .ok (.iload 4, 2) := by decide +kernel
theorem dL_come_9 : decode cL_come 9 = .ok (.invokevirtual 7, 3) := by decide +kernel
theorem dL_come_12 : decode cL_come 12 = .ok (.i2l, 1) := by decide +kernel
theorem dL_come_13 : decode cL_come 13 = .ok (.lastore, 1) := by decide +kernel
theorem dL_come_14 : decode cL_come 14 = .ok (.goto 11, 3) := by decide +kernel
theorem dL_come_17 : decode cL_come 17 = .ok (.astore 6, 2) := by decide +kernel
theorem dL_come_19 : decode cL_come 19 = .ok (.iconst 1, 1) := by decide +kernel
theorem dL_come_20 : decode cL_come 20 = .ok (.ireturn, 1) := by decide +kernel
theorem dL_come_21 : decode cL_come 21 = .ok (.astore 6, 2) := by decide +kernel
theorem dL_come_23 : decode cL_come 23 = .ok (.iconst 2, 1) := by decide +kernel
theorem dL_come_24 : decode cL_come 24 = .ok (.ireturn, 1) := by decide +kernel
theorem dL_come_25 : decode cL_come 25 = .ok (.iconst 0, 1) := by decide +kernel
theorem dL_come_26 : decode cL_come 26 = .ok (.ireturn, 1) := by decide +kernel
theorem dL_strike_0 : decode cL_strike 0 = .ok (.aload_n 2, 1) := by decide +kernel
theorem dL_strike_1 : decode cL_strike 1 = .ok (.iconst 0, 1) := by decide +kernel
theorem dL_strike_2 : decode cL_strike 2 = .ok (.aload_n 0, 1) := by decide +kernel
theorem dL_strike_3 : decode cL_strike 3 = .ok (.iload_n 1, 1) := by decide +kernel
theorem dL_strike_4 : decode cL_strike 4 = .ok (.invokevirtual 17, 3) := by decide +kernel
theorem dL_strike_7 : decode cL_strike 7 = .ok (.i2l, 1) := by decide +kernel
theorem dL_strike_8 : decode cL_strike 8 = .ok (.lastore, 1) := by decide +kernel
theorem dL_strike_9 : decode cL_strike 9 = .ok (.goto 9, 3) := by decide +kernel
theorem dL_strike_12 : decode cL_strike 12 = .ok (.astore_n 3, 1) := by decide +kernel
theorem dL_strike_13 : decode cL_strike 13 = .ok (.iconst 1, 1) := by decide +kernel
theorem dL_strike_14 : decode cL_strike 14 = .ok (.ireturn, 1) := by decide +kernel
theorem dL_strike_15 : decode cL_strike 15 = .ok (.astore_n 3, 1) := by decide +kernel
theorem dL_strike_16 : decode cL_strike 16 = .ok (.iconst 2, 1) := by decide +kernel
theorem dL_strike_17 : decode cL_strike 17 = .ok (.ireturn, 1) := by decide +kernel
theorem dL_strike_18 : decode cL_strike 18 = .ok (.iconst 0, 1) := by decide +kernel
theorem dL_strike_19 : decode cL_strike 19 = .ok (.ireturn, 1) := by decide +kernel
theorem dL_step_0 : decode cL_step 0 = .ok (.aload_n 2, 1) := by decide +kernel
theorem dL_step_1 : decode cL_step 1 = .ok (.iconst 0, 1) := by decide +kernel
theorem dL_step_2 : decode cL_step 2 = .ok (.aload_n 0, 1) := by decide +kernel
theorem dL_step_3 : decode cL_step 3 = .ok (.iload_n 1, 1) := by decide +kernel
theorem dL_step_4 : decode cL_step 4 = .ok (.invokevirtual 23, 3) := by decide +kernel
theorem dL_step_7 : decode cL_step 7 = .ok (.i2l, 1) := by decide +kernel
theorem dL_step_8 : decode cL_step 8 = .ok (.lastore, 1) := by decide +kernel
theorem dL_step_9 : decode cL_step 9 = .ok (.goto 9, 3) := by decide +kernel
theorem dL_step_12 : decode cL_step 12 = .ok (.astore_n 3, 1) := by decide +kernel
theorem dL_step_13 : decode cL_step 13 = .ok (.iconst 1, 1) := by decide +kernel
theorem dL_step_14 : decode cL_step 14 = .ok (.ireturn, 1) := by decide +kernel
theorem dL_step_15 : decode cL_step 15 = .ok (.astore_n 3, 1) := by decide +kernel
theorem dL_step_16 : decode cL_step 16 = .ok (.iconst 2, 1) := by decide +kernel
theorem dL_step_17 : decode cL_step 17 = .ok (.ireturn, 1) := by decide +kernel
theorem dL_step_18 : decode cL_step 18 = .ok (.iconst 0, 1) := by decide +kernel
theorem dL_step_19 : decode cL_step 19 = .ok (.ireturn, 1) := by decide +kernel
theorem dL_help_0 : decode cL_help 0 = .ok (.aload_n 2, 1) := by decide +kernel
theorem dL_help_1 : decode cL_help 1 = .ok (.iconst 0, 1) := by decide +kernel
theorem dL_help_2 : decode cL_help 2 = .ok (.aload_n 0, 1) := by decide +kernel
theorem dL_help_3 : decode cL_help 3 = .ok (.iload_n 1, 1) := by decide +kernel
theorem dL_help_4 : decode cL_help 4 = .ok (.invokevirtual 26, 3) := by decide +kernel
theorem dL_help_7 : decode cL_help 7 = .ok (.i2l, 1) := by decide +kernel
theorem dL_help_8 : decode cL_help 8 = .ok (.lastore, 1) := by decide +kernel
theorem dL_help_9 : decode cL_help 9 = .ok (.goto 9, 3) := by decide +kernel
theorem dL_help_12 : decode cL_help 12 = .ok (.astore_n 3, 1) := by decide +kernel
theorem dL_help_13 : decode cL_help 13 = .ok (.iconst 1, 1) := by decide +kernel
theorem dL_help_14 : decode cL_help 14 = .ok (.ireturn, 1) := by decide +kernel
theorem dL_help_15 : decode cL_help 15 = .ok (.astore_n 3, 1) := by decide +kernel
theorem dL_help_16 : decode cL_help 16 = .ok (.iconst 2, 1) := by decide +kernel
theorem dL_help_17 : decode cL_help 17 = .ok (.ireturn, 1) := by decide +kernel
theorem dL_help_18 : decode cL_help 18 = .ok (.iconst 0, 1) := by decide +kernel
theorem dL_help_19 : decode cL_help 19 = .ok (.ireturn, 1) := by decide +kernel
theorem dL_curse_0 : decode cL_curse 0 = .ok (.aload 4, 2) := by decide +kernel
theorem dL_curse_2 : decode cL_curse 2 = .ok (.iconst 0, 1) := by decide +kernel
theorem dL_curse_3 : decode cL_curse 3 = .ok (.aload_n 0, 1) := by decide +kernel
theorem dL_curse_4 : decode cL_curse 4 = .ok (.iload_n 1, 1) := by decide +kernel
theorem dL_curse_5 : decode cL_curse 5 = .ok (.iload_n 2, 1) := by decide +kernel
theorem dL_curse_6 : decode cL_curse 6 = .ok (.iload_n 3, 1) := by decide +kernel
theorem dL_curse_7 : decode cL_curse 7 = .ok (.invokevirtual 29, 3) := by decide +kernel
theorem dL_curse_10 : decode cL_curse 10 = .ok (.i2l, 1) := by decide +kernel
theorem dL_curse_11 : decode cL_curse 11 = .ok (.lastore, 1) := by decide +kernel
theorem dL_curse_12 : decode cL_curse 12 = .ok (.goto 15, 3) := by decide +kernel
theorem dL_curse_15 : decode cL_curse 15 = .ok (.astore 5, 2) := by decide +kernel
theorem dL_curse_17 : decode cL_curse 17 = .ok (.iconst 1, 1) := by decide +kernel
theorem dL_curse_18 : decode cL_curse 18 = .ok (.ireturn, 1) := by decide +kernel
theorem dL_curse_19 : decode cL_curse 19 = .ok (.astore 5, 2) := by decide +kernel
theorem dL_curse_21 : decode cL_curse 21 = .ok (.iconst 2, 1) := by decide +kernel
theorem dL_curse_22 : decode cL_curse 22 = .ok (.ireturn, 1) := by decide +kernel
theorem dL_curse_23 : decode cL_curse 23 = .ok (.astore 5, 2) := by decide +kernel
theorem dL_curse_25 : decode cL_curse 25 = .ok (.iconst 3, 1) := by decide +kernel
theorem dL_curse_26 : decode cL_curse 26 = .ok (.ireturn, 1) := by decide +kernel
theorem dL_curse_27 : decode cL_curse 27 = .ok (.iconst 0, 1) := by decide +kernel
theorem dL_curse_28 : decode cL_curse 28 = .ok (.ireturn, 1) := by decide +kernel
theorem dL_delay_0 : decode cL_delay 0 = .ok (.aload_n 1, 1) := by decide +kernel
theorem dL_delay_1 : decode cL_delay 1 = .ok (.iconst 0, 1) := by decide +kernel
theorem dL_delay_2 : decode cL_delay 2 = .ok (.aload_n 0, 1) := by decide +kernel
theorem dL_delay_3 : decode cL_delay 3 = .ok (.invokevirtual 33, 3) := by decide +kernel
theorem dL_delay_6 : decode cL_delay 6 = .ok (.i2l, 1) := by decide +kernel
theorem dL_delay_7 : decode cL_delay 7 = .ok (.lastore, 1) := by decide +kernel
theorem dL_delay_8 : decode cL_delay 8 = .ok (.goto 6, 3) := by decide +kernel
theorem dL_delay_11 : decode cL_delay 11 = .ok (.astore_n 2, 1) := by decide +kernel
theorem dL_delay_12 : decode cL_delay 12 = .ok (.iconst 1, 1) := by decide +kernel
theorem dL_delay_13 : decode cL_delay 13 = .ok (.ireturn, 1) := by decide +kernel
theorem dL_delay_14 : decode cL_delay 14 = .ok (.iconst 0, 1) := by decide +kernel
theorem dL_delay_15 : decode cL_delay 15 = .ok (.ireturn, 1) := by decide +kernel
theorem dL_ready_0 : decode cL_ready 0 = .ok (.aload 5, 2) := by decide +kernel
theorem dL_ready_2 : decode cL_ready 2 = .ok (.iconst 0, 1) := by decide +kernel
theorem dL_ready_3 : decode cL_ready 3 = .ok (.aload_n 0, 1) := by decide +kernel
theorem dL_ready_4 : decode cL_ready 4 = .ok (.iload_n 1, 1) := by decide +kernel
theorem dL_ready_5 : decode cL_ready 5 = .ok (.iload_n 2, 1) := by decide +kernel
theorem dL_ready_6 : decode cL_ready 6 = .ok (.iload_n 3, 1) := by decide +kernel
theorem dL_ready_7 : decode cL_ready 7 = .ok (.iload 4, 2) := by decide +kernel
theorem dL_ready_9 : decode cL_ready 9 = .ok (.invokevirtual 37, 3) := by decide +kernel
theorem dL_ready_12 : decode cL_ready 12 = .ok (.i2l, 1) := by decide +kernel
theorem dL_ready_13 : decode cL_ready 13 = .ok (.lastore, 1) := by decide +kernel
theorem dL_ready_14 : decode cL_ready 14 = .ok (.goto 15, 3) := by decide +kernel
theorem dL_ready_17 : decode cL_ready 17 = .ok (.astore 6, 2) := by decide +kernel
theorem dL_ready_19 : decode cL_ready 19 = .ok (.iconst 1, 1) := by decide +kernel
theorem dL_ready_20 : decode cL_ready 20 = .ok (.ireturn, 1) := by decide +kernel
theorem dL_ready_21 : decode cL_ready 21 = .ok (.astore 6, 2) := by decide +kernel
theorem dL_ready_23 : decode cL_ready 23 = .ok (.iconst 2, 1) := by decide +kernel
theorem dL_ready_24 : decode cL_ready 24 = .ok (.ireturn, 1) := by decide +kernel
theorem dL_ready_25 : decode cL_ready 25 = .ok (.astore 6, 2) := by decide +kernel
theorem dL_ready_27 : decode cL_ready 27 = .ok (.iconst 3, 1) := by decide +kernel
theorem dL_ready_28 : decode cL_ready 28 = .ok (.ireturn, 1) := by decide +kernel
theorem dL_ready_29 : decode cL_ready 29 = .ok (.iconst 0, 1) := by decide +kernel
theorem dL_ready_30 : decode cL_ready 30 = .ok (.ireturn, 1) := by decide +kernel
theorem dL_end_0 : decode cL_end 0 = .ok (.aload_n 1, 1) := by decide +kernel
theorem dL_end_1 : decode cL_end 1 = .ok (.iconst 0, 1) := by decide +kernel
theorem dL_end_2 : decode cL_end 2 = .ok (.aload_n 0, 1) := by decide +kernel
theorem dL_end_3 : decode cL_end 3 = .ok (.invokevirtual 40, 3) := by decide +kernel
theorem dL_end_6 : decode cL_end 6 = .ok (.i2l, 1) := by decide +kernel
theorem dL_end_7 : decode cL_end 7 = .ok (.lastore, 1) := by decide +kernel
theorem dL_end_8 : decode cL_end 8 = .ok (.goto 6, 3) := by decide +kernel
theorem dL_end_11 : decode cL_end 11 = .ok (.astore_n 2, 1) := by decide +kernel
theorem dL_end_12 : decode cL_end 12 = .ok (.iconst 1, 1) := by decide +kernel
theorem dL_end_13 : decode cL_end 13 = .ok (.ireturn, 1) := by decide +kernel
theorem dL_end_14 : decode cL_end 14 = .ok (.iconst 0, 1) := by decide +kernel
theorem dL_end_15 : decode cL_end 15 = .ok (.ireturn, 1) := by decide +kernel
theorem dL_comeIn_0 : decode cL_comeIn 0 = .ok (.aload_n 2, 1) := by decide +kernel
theorem dL_comeIn_1 : decode cL_comeIn 1 = .ok (.iconst 0, 1) := by decide +kernel
theorem dL_comeIn_2 : decode cL_comeIn 2 = .ok (.aload_n 0, 1) := by decide +kernel
theorem dL_comeIn_3 : decode cL_comeIn 3 = .ok (.iload_n 1, 1) := by decide +kernel
theorem dL_comeIn_4 : decode cL_comeIn 4 = .ok (.invokevirtual 43, 3) := by decide +kernel
theorem dL_comeIn_7 : decode cL_comeIn 7 = .ok (.i2l, 1) := by decide +kernel
theorem dL_comeIn_8 : decode cL_comeIn 8 = .ok (.lastore, 1) := by decide +kernel
theorem dL_comeIn_9 : decode cL_comeIn 9 = .ok (.goto 9, 3) := by decide +kernel
theorem dL_comeIn_12 : decode cL_comeIn 12 = .ok (.astore_n 3, 1) := by decide +kernel
theorem dL_comeIn_13 : decode cL_comeIn 13 = .ok (.iconst 1, 1) := by decide +kernel
theorem dL_comeIn_14 : decode cL_comeIn 14 = .ok (.ireturn, 1) := by decide +kernel
theorem dL_comeIn_15 : decode cL_comeIn 15 = .ok (.astore_n 3, 1) := by decide +kernel
theorem dL_comeIn_16 : decode cL_comeIn 16 = .ok (.iconst 2, 1) := by decide +kernel
theorem dL_comeIn_17 : decode cL_comeIn 17 = .ok (.ireturn, 1) := by decide +kernel
theorem dL_comeIn_18 : decode cL_comeIn 18 = .ok (.iconst 0, 1) := by decide +kernel
theorem dL_comeIn_19 : decode cL_comeIn 19 = .ok (.ireturn, 1) := by decide +kernel
theorem dL_append_0 : decode cL_append 0 = .ok (.aload_n 2, 1) := by decide +kernel
theorem dL_append_1 : decode cL_append 1 = .ok (.iconst 0, 1) := by decide +kernel
theorem dL_append_2 : decode cL_append 2 = .ok (.aload_n 0, 1) := by decide +kernel
theorem dL_append_3 : decode cL_append 3 = .ok (.iload_n 1, 1) := by decide +kernel
theorem dL_append_4 : decode cL_append 4 = .ok (.invokevirtual 46, 3) := by decide +kernel
theorem dL_append_7 : decode cL_append 7 = .ok (.i2l, 1) := by decide +kernel
theorem dL_append_8 : decode cL_append 8 = .ok (.lastore, 1) := by decide +kernel
theorem dL_append_9 : decode cL_append 9 = .ok (.goto 9, 3) := by decide +kernel
theorem dL_append_12 : decode cL_append 12 = .ok (.astore_n 3, 1) := by decide +kernel
theorem dL_append_13 : decode cL_append 13 = .ok (.iconst 1, 1) := by decide +kernel
theorem dL_append_14 : decode cL_append 14 = .ok (.ireturn, 1) := by decide +kernel
theorem dL_append_15 : decode cL_append 15 = .ok (.astore_n 3, 1) := by decide +kernel
theorem dL_append_16 : decode cL_append 16 = .ok (.iconst 2, 1) := by decide +kernel
theorem dL_append_17 : decode cL_append 17 = .ok (.ireturn, 1) := by decide +kernel
theorem dL_append_18 : decode cL_append 18 = .ok (.iconst 0, 1) := by decide +kernel
theorem dL_append_19 : decode cL_append 19 = .ok (.ireturn, 1) := by decide +kernel
theorem dL_run_0 : decode cL_run 0 = .ok (.aload_n 1, 1) := by decide +kernel
theorem dL_run_1 : decode cL_run 1 = .ok (.iconst 0, 1) := by decide +kernel
theorem dL_run_2 : decode cL_run 2 = .ok (.aload_n 0, 1) := by decide +kernel
theorem dL_run_3 : decode cL_run 3 = .ok (.invokevirtual 49, 3) := by decide +kernel
theorem dL_run_6 : decode cL_run 6 = .ok (.i2l, 1) := by decide +kernel
theorem dL_run_7 : decode cL_run 7 = .ok (.lastore, 1) := by decide +kernel
theorem dL_run_8 : decode cL_run 8 = .ok (.goto 6, 3) := by decide +kernel
theorem dL_run_11 : decode cL_run 11 = .ok (.astore_n 2, 1) := by decide +kernel
theorem dL_run_12 : decode cL_run 12 = .ok (.iconst 1, 1) := by decide +kernel
theorem dL_run_13 : decode cL_run 13 = .ok (.ireturn, 1) := by decide +kernel
theorem dL_run_14 : decode cL_run 14 = .ok (.iconst 0, 1) := by decide +kernel
theorem dL_run_15 : decode cL_run 15 = .ok (.ireturn, 1) := by decide +kernel
theorem dL_undo_0 : decode cL_undo 0 = .ok (.aload_n 1, 1) := by decide +kernel
theorem dL_undo_1 : decode cL_undo 1 = .ok (.iconst 0, 1) := by decide +kernel
theorem dL_undo_2 : decode cL_undo 2 = .ok (.aload_n 0, 1) := by decide +kernel
theorem dL_undo_3 : decode cL_undo 3 = .ok (.invokevirtual 52, 3) := by decide +kernel
theorem dL_undo_6 : decode cL_undo 6 = .ok (.i2l, 1) := by decide +kernel
theorem dL_undo_7 : decode cL_undo 7 = .ok (.lastore, 1) := by decide +kernel
theorem dL_undo_8 : decode cL_undo 8 = .ok (.goto 6, 3) := by decide +kernel
theorem dL_undo_11 : decode cL_undo 11 = .ok (.astore_n 2, 1) := by decide +kernel
theorem dL_undo_12 : decode cL_undo 12 = .ok (.iconst 1, 1) := by decide +kernel
theorem dL_undo_13 : decode cL_undo 13 = .ok (.ireturn, 1) := by decide +kernel
theorem dL_undo_14 : decode cL_undo 14 = .ok (.iconst 0, 1) := by decide +kernel
theorem dL_undo_15 : decode cL_undo 15 = .ok (.ireturn, 1) := by decide +kernel
theorem dL_fighter_0 : decode cL_fighter 0 = .ok (.aload_n 3, 1) := by decide +kernel
theorem dL_fighter_1 : decode cL_fighter 1 = .ok (.iconst 0, 1) := by decide +kernel
theorem dL_fighter_2 : decode cL_fighter 2 = .ok (.aload_n 0, 1) := by decide +kernel
theorem dL_fighter_3 : decode cL_fighter 3 = .ok (.iload_n 1, 1) := by decide +kernel
theorem dL_fighter_4 : decode cL_fighter 4 = .ok (.iload_n 2, 1) := by decide +kernel
theorem dL_fighter_5 : decode cL_fighter 5 = .ok (.invokevirtual 55, 3) := by decide +kernel
theorem dL_fighter_8 : decode cL_fighter 8 = .ok (.i2l, 1) := by decide +kernel
theorem dL_fighter_9 : decode cL_fighter 9 = .ok (.lastore, 1) := by decide +kernel
theorem dL_fighter_10 : decode cL_fighter 10 = .ok (.goto 11, 3) := by decide +kernel
theorem dL_fighter_13 : decode cL_fighter 13 = .ok (.astore 4, 2) := by decide +kernel
theorem dL_fighter_15 : decode cL_fighter 15 = .ok (.iconst 1, 1) := by decide +kernel
theorem dL_fighter_16 : decode cL_fighter 16 = .ok (.ireturn, 1) := by decide +kernel
theorem dL_fighter_17 : decode cL_fighter 17 = .ok (.astore 4, 2) := by decide +kernel
theorem dL_fighter_19 : decode cL_fighter 19 = .ok (.iconst 2, 1) := by decide +kernel
theorem dL_fighter_20 : decode cL_fighter 20 = .ok (.ireturn, 1) := by decide +kernel
theorem dL_fighter_21 : decode cL_fighter 21 = .ok (.iconst 0, 1) := by decide +kernel
theorem dL_fighter_22 : decode cL_fighter 22 = .ok (.ireturn, 1) := by decide +kernel
theorem dL_readied_0 : decode cL_readied 0 = .ok (.aload_n 3, 1) := by decide +kernel
theorem dL_readied_1 : decode cL_readied 1 = .ok (.iconst 0, 1) := by decide +kernel
theorem dL_readied_2 : decode cL_readied 2 = .ok (.aload_n 0, 1) := by decide +kernel
theorem dL_readied_3 : decode cL_readied 3 = .ok (.iload_n 1, 1) := by decide +kernel
theorem dL_readied_4 : decode cL_readied 4 = .ok (.iload_n 2, 1) := by decide +kernel
theorem dL_readied_5 : decode cL_readied 5 = .ok (.invokevirtual 59, 3) := by decide +kernel
theorem dL_readied_8 : decode cL_readied 8 = .ok (.i2l, 1) := by decide +kernel
theorem dL_readied_9 : decode cL_readied 9 = .ok (.lastore, 1) := by decide +kernel
theorem dL_readied_10 : decode cL_readied 10 = .ok (.goto 11, 3) := by decide +kernel
theorem dL_readied_13 : decode cL_readied 13 = .ok (.astore 4, 2) := by decide +kernel
theorem dL_readied_15 : decode cL_readied 15 = .ok (.iconst 1, 1) := by decide +kernel
theorem dL_readied_16 : decode cL_readied 16 = .ok (.ireturn, 1) := by decide +kernel
theorem dL_readied_17 : decode cL_readied 17 = .ok (.astore 4, 2) := by decide +kernel
theorem dL_readied_19 : decode cL_readied 19 = .ok (.iconst 2, 1) := by decide +kernel
theorem dL_readied_20 : decode cL_readied 20 = .ok (.ireturn, 1) := by decide +kernel
theorem dL_readied_21 : decode cL_readied 21 = .ok (.iconst 0, 1) := by decide +kernel
theorem dL_readied_22 : decode cL_readied 22 = .ok (.ireturn, 1) := by decide +kernel
theorem dL_inRow_0 : decode cL_inRow 0 = .ok (.aload_n 2, 1) := by decide +kernel
theorem dL_inRow_1 : decode cL_inRow 1 = .ok (.iconst 0, 1) := by decide +kernel
theorem dL_inRow_2 : decode cL_inRow 2 = .ok (.aload_n 0, 1) := by decide +kernel
theorem dL_inRow_3 : decode cL_inRow 3 = .ok (.iload_n 1, 1) := by decide +kernel
theorem dL_inRow_4 : decode cL_inRow 4 = .ok (.invokevirtual 62, 3) := by decide +kernel
theorem dL_inRow_7 : decode cL_inRow 7 = .ok (.i2l, 1) := by decide +kernel
theorem dL_inRow_8 : decode cL_inRow 8 = .ok (.lastore, 1) := by decide +kernel
theorem dL_inRow_9 : decode cL_inRow 9 = .ok (.goto 6, 3) := by decide +kernel
theorem dL_inRow_12 : decode cL_inRow 12 = .ok (.astore_n 3, 1) := by decide +kernel
theorem dL_inRow_13 : decode cL_inRow 13 = .ok (.iconst 1, 1) := by decide +kernel
theorem dL_inRow_14 : decode cL_inRow 14 = .ok (.ireturn, 1) := by decide +kernel
theorem dL_inRow_15 : decode cL_inRow 15 = .ok (.iconst 0, 1) := by decide +kernel
theorem dL_inRow_16 : decode cL_inRow 16 = .ok (.ireturn, 1) := by decide +kernel
theorem dL_count_0 : decode cL_count 0 = .ok (.aload_n 2, 1) := by decide +kernel
theorem dL_count_1 : decode cL_count 1 = .ok (.iconst 0, 1) := by decide +kernel
theorem dL_count_2 : decode cL_count 2 = .ok (.aload_n 0, 1) := by decide +kernel
theorem dL_count_3 : decode cL_count 3 = .ok (.iload_n 1, 1) := by decide +kernel
theorem dL_count_4 : decode cL_count 4 = .ok (.invokevirtual 65, 3) := by decide +kernel
theorem dL_count_7 : decode cL_count 7 = .ok (.i2l, 1) := by decide +kernel
theorem dL_count_8 : decode cL_count 8 = .ok (.lastore, 1) := by decide +kernel
theorem dL_count_9 : decode cL_count 9 = .ok (.goto 6, 3) := by decide +kernel
theorem dL_count_12 : decode cL_count 12 = .ok (.astore_n 3, 1) := by decide +kernel
theorem dL_count_13 : decode cL_count 13 = .ok (.iconst 1, 1) := by decide +kernel
theorem dL_count_14 : decode cL_count 14 = .ok (.ireturn, 1) := by decide +kernel
theorem dL_count_15 : decode cL_count 15 = .ok (.iconst 0, 1) := by decide +kernel
theorem dL_count_16 : decode cL_count 16 = .ok (.ireturn, 1) := by decide +kernel
theorem dL_ifDone_0 : decode cL_ifDone 0 = .ok (.aload 4, 2) := by decide +kernel
theorem dL_ifDone_2 : decode cL_ifDone 2 = .ok (.iconst 0, 1) := by decide +kernel
theorem dL_ifDone_3 : decode cL_ifDone 3 = .ok (.aload_n 0, 1) := by decide +kernel
theorem dL_ifDone_4 : decode cL_ifDone 4 = .ok (.iload_n 1, 1) := by decide +kernel
theorem dL_ifDone_5 : decode cL_ifDone 5 = .ok (.iload_n 2, 1) := by decide +kernel
theorem dL_ifDone_6 : decode cL_ifDone 6 = .ok (.iload_n 3, 1) := by decide +kernel
theorem dL_ifDone_7 : decode cL_ifDone 7 = .ok (.invokevirtual 68, 3) := by decide +kernel
theorem dL_ifDone_10 : decode cL_ifDone 10 = .ok (.i2l, 1) := by decide +kernel
theorem dL_ifDone_11 : decode cL_ifDone 11 = .ok (.lastore, 1) := by decide +kernel
theorem dL_ifDone_12 : decode cL_ifDone 12 = .ok (.goto 7, 3) := by decide +kernel
theorem dL_ifDone_15 : decode cL_ifDone 15 = .ok (.astore 5, 2) := by decide +kernel
theorem dL_ifDone_17 : decode cL_ifDone 17 = .ok (.iconst 1, 1) := by decide +kernel
theorem dL_ifDone_18 : decode cL_ifDone 18 = .ok (.ireturn, 1) := by decide +kernel
theorem dL_ifDone_19 : decode cL_ifDone 19 = .ok (.iconst 0, 1) := by decide +kernel
theorem dL_ifDone_20 : decode cL_ifDone 20 = .ok (.ireturn, 1) := by decide +kernel
theorem dL_ifEnded_0 : decode cL_ifEnded 0 = .ok (.aload_n 2, 1) := by decide +kernel
theorem dL_ifEnded_1 : decode cL_ifEnded 1 = .ok (.iconst 0, 1) := by decide +kernel
theorem dL_ifEnded_2 : decode cL_ifEnded 2 = .ok (.aload_n 0, 1) := by decide +kernel
theorem dL_ifEnded_3 : decode cL_ifEnded 3 = .ok (.iload_n 1, 1) := by decide +kernel
theorem dL_ifEnded_4 : decode cL_ifEnded 4 = .ok (.invokevirtual 71, 3) := by decide +kernel
theorem dL_ifEnded_7 : decode cL_ifEnded 7 = .ok (.i2l, 1) := by decide +kernel
theorem dL_ifEnded_8 : decode cL_ifEnded 8 = .ok (.lastore, 1) := by decide +kernel
theorem dL_ifEnded_9 : decode cL_ifEnded 9 = .ok (.goto 6, 3) := by decide +kernel
theorem dL_ifEnded_12 : decode cL_ifEnded 12 = .ok (.astore_n 3, 1) := by decide +kernel
theorem dL_ifEnded_13 : decode cL_ifEnded 13 = .ok (.iconst 1, 1) := by decide +kernel
theorem dL_ifEnded_14 : decode cL_ifEnded 14 = .ok (.ireturn, 1) := by decide +kernel
theorem dL_ifEnded_15 : decode cL_ifEnded 15 = .ok (.iconst 0, 1) := by decide +kernel
theorem dL_ifEnded_16 : decode cL_ifEnded 16 = .ok (.ireturn, 1) := by decide +kernel
theorem dL_law_0 : decode cL_law 0 = .ok (.new 8, 3) := by decide +kernel
theorem dL_law_3 : decode cL_law 3 = .ok (.dup, 1) := by decide +kernel
theorem dL_law_4 : decode cL_law 4 = .ok (.invokespecial 74, 3) := by decide +kernel
theorem dL_law_7 : decode cL_law 7 = .ok (.astore_n 1, 1) := by decide +kernel
theorem dL_law_8 : decode cL_law 8 = .ok (.new 75, 3) := by decide +kernel
theorem dL_law_11 : decode cL_law 11 = .ok (.dup, 1) := by decide +kernel
theorem dL_law_12 : decode cL_law 12 = .ok (.invokespecial 77, 3) := by decide +kernel
theorem dL_law_15 : decode cL_law 15 = .ok (.astore_n 2, 1) := by decide +kernel
theorem dL_law_16 : decode cL_law 16 = .ok (.iconst 1, 1) := by decide +kernel
theorem dL_law_17 : decode cL_law 17 = .ok (.newarray .long, 2) := by decide +kernel
theorem dL_law_19 : decode cL_law 19 = .ok (.astore_n 3, 1) := by decide +kernel
theorem dL_law_20 : decode cL_law 20 = .ok (.iconst 0, 1) := by decide +kernel
theorem dL_law_21 : decode cL_law 21 = .ok (.istore 4, 2) := by decide +kernel
theorem dL_law_23 : decode cL_law 23 = .ok (.iload 4, 2) := by decide +kernel
theorem dL_law_25 : decode cL_law 25 = .ok (.aload_n 0, 1) := by decide +kernel
theorem dL_law_26 : decode cL_law 26 = .ok (.arraylength, 1) := by decide +kernel
theorem dL_law_27 : decode cL_law 27 = .ok (.iconst 5, 1) := by decide +kernel
theorem dL_law_28 : decode cL_law 28 = .ok (.isub, 1) := by decide +kernel
theorem dL_law_29 : decode cL_law 29 = .ok (.if_icmp .gt 1336, 3) := by decide +kernel
theorem dL_law_32 : decode cL_law 32 = .ok (.aload_n 0, 1) := by decide +kernel
theorem dL_law_33 : decode cL_law 33 = .ok (.iload 4, 2) := by decide +kernel
theorem dL_law_35 : decode cL_law 35 = .ok (.iaload, 1) := by decide +kernel
theorem dL_law_36 : decode cL_law 36 = .ok (.bipush 31, 2) := by decide +kernel
theorem dL_law_38 : decode cL_law 38 = .ok (.iand, 1) := by decide +kernel
theorem dL_law_39 : decode cL_law 39 = .ok (.tableswitch 1320 0 23 #[109, 201, 214, 270, 326, 382, 462, 506, 598, 642, 698, 754, 767, 780, 824, 868, 936, 1004, 1060, 1116, 1196, 1252, 1265, 1306], 109) := by decide +kernel
theorem dL_law_148 : decode cL_law 148 = .ok (.aload_n 1, 1) := by decide +kernel
theorem dL_law_149 : decode cL_law 149 = .ok (.aload_n 0, 1) := by decide +kernel
theorem dL_law_150 : decode cL_law 150 = .ok (.iload 4, 2) := by decide +kernel
theorem dL_law_152 : decode cL_law 152 = .ok (.iconst 1, 1) := by decide +kernel
theorem dL_law_153 : decode cL_law 153 = .ok (.iadd, 1) := by decide +kernel
theorem dL_law_154 : decode cL_law 154 = .ok (.iaload, 1) := by decide +kernel
theorem dL_law_155 : decode cL_law 155 = .ok (.aload_n 0, 1) := by decide +kernel
theorem dL_law_156 : decode cL_law 156 = .ok (.iload 4, 2) := by decide +kernel
theorem dL_law_158 : decode cL_law 158 = .ok (.iconst 2, 1) := by decide +kernel
theorem dL_law_159 : decode cL_law 159 = .ok (.iadd, 1) := by decide +kernel
theorem dL_law_160 : decode cL_law 160 = .ok (.iaload, 1) := by decide +kernel
theorem dL_law_161 : decode cL_law 161 = .ok (.aload_n 0, 1) := by decide +kernel
theorem dL_law_162 : decode cL_law 162 = .ok (.iload 4, 2) := by decide +kernel
theorem dL_law_164 : decode cL_law 164 = .ok (.iconst 3, 1) := by decide +kernel
theorem dL_law_165 : decode cL_law 165 = .ok (.iadd, 1) := by decide +kernel
theorem dL_law_166 : decode cL_law 166 = .ok (.iaload, 1) := by decide +kernel
theorem dL_law_167 : decode cL_law 167 = .ok (.aload_n 0, 1) := by decide +kernel
theorem dL_law_168 : decode cL_law 168 = .ok (.iload 4, 2) := by decide +kernel
theorem dL_law_170 : decode cL_law 170 = .ok (.iconst 4, 1) := by decide +kernel
theorem dL_law_171 : decode cL_law 171 = .ok (.iadd, 1) := by decide +kernel
theorem dL_law_172 : decode cL_law 172 = .ok (.iaload, 1) := by decide +kernel
theorem dL_law_173 : decode cL_law 173 = .ok (.aload_n 3, 1) := by decide +kernel
theorem dL_law_174 : decode cL_law 174 = .ok (.invokestatic 78, 3) := by decide +kernel
theorem dL_law_177 : decode cL_law 177 = .ok (.istore 5, 2) := by decide +kernel
theorem dL_law_179 : decode cL_law 179 = .ok (.aload_n 2, 1) := by decide +kernel
theorem dL_law_180 : decode cL_law 180 = .ok (.aload_n 0, 1) := by decide +kernel
theorem dL_law_181 : decode cL_law 181 = .ok (.iload 4, 2) := by decide +kernel
theorem dL_law_183 : decode cL_law 183 = .ok (.iconst 1, 1) := by decide +kernel
theorem dL_law_184 : decode cL_law 184 = .ok (.iadd, 1) := by decide +kernel
theorem dL_law_185 : decode cL_law 185 = .ok (.iaload, 1) := by decide +kernel
theorem dL_law_186 : decode cL_law 186 = .ok (.aload_n 0, 1) := by decide +kernel
theorem dL_law_187 : decode cL_law 187 = .ok (.iload 4, 2) := by decide +kernel
theorem dL_law_189 : decode cL_law 189 = .ok (.iconst 2, 1) := by decide +kernel
theorem dL_law_190 : decode cL_law 190 = .ok (.iadd, 1) := by decide +kernel
theorem dL_law_191 : decode cL_law 191 = .ok (.iaload, 1) := by decide +kernel
theorem dL_law_192 : decode cL_law 192 = .ok (.aload_n 0, 1) := by decide +kernel
theorem dL_law_193 : decode cL_law 193 = .ok (.iload 4, 2) := by decide +kernel
theorem dL_law_195 : decode cL_law 195 = .ok (.iconst 3, 1) := by decide +kernel
theorem dL_law_196 : decode cL_law 196 = .ok (.iadd, 1) := by decide +kernel
theorem dL_law_197 : decode cL_law 197 = .ok (.iaload, 1) := by decide +kernel
theorem dL_law_198 : decode cL_law 198 = .ok (.aload_n 0, 1) := by decide +kernel
theorem dL_law_199 : decode cL_law 199 = .ok (.iload 4, 2) := by decide +kernel
theorem dL_law_201 : decode cL_law 201 = .ok (.iconst 4, 1) := by decide +kernel
theorem dL_law_202 : decode cL_law 202 = .ok (.iadd, 1) := by decide +kernel
theorem dL_law_203 : decode cL_law 203 = .ok (.iaload, 1) := by decide +kernel
theorem dL_law_204 : decode cL_law 204 = .ok (.invokevirtual 83, 3) := by decide +kernel
theorem dL_law_207 : decode cL_law 207 = .ok (.istore 6, 2) := by decide +kernel
theorem dL_law_209 : decode cL_law 209 = .ok (.aload_n 2, 1) := by decide +kernel
theorem dL_law_210 : decode cL_law 210 = .ok (.invokevirtual 84, 3) := by decide +kernel
theorem dL_law_213 : decode cL_law 213 = .ok (.iload 5, 2) := by decide +kernel
theorem dL_law_215 : decode cL_law 215 = .ok (.if_icmp .eq 5, 3) := by decide +kernel
theorem dL_law_218 : decode cL_law 218 = .ok (.iconst 0, 1) := by decide +kernel
theorem dL_law_219 : decode cL_law 219 = .ok (.ireturn, 1) := by decide +kernel
theorem dL_law_220 : decode cL_law 220 = .ok (.iload 5, 2) := by decide +kernel
theorem dL_law_222 : decode cL_law 222 = .ok (.ifCond .ne 15, 3) := by decide +kernel
theorem dL_law_225 : decode cL_law 225 = .ok (.aload_n 3, 1) := by decide +kernel
theorem dL_law_226 : decode cL_law 226 = .ok (.iconst 0, 1) := by decide +kernel
theorem dL_law_227 : decode cL_law 227 = .ok (.laload, 1) := by decide +kernel
theorem dL_law_228 : decode cL_law 228 = .ok (.iload 6, 2) := by decide +kernel
theorem dL_law_230 : decode cL_law 230 = .ok (.i2l, 1) := by decide +kernel
theorem dL_law_231 : decode cL_law 231 = .ok (.lcmp, 1) := by decide +kernel
theorem dL_law_232 : decode cL_law 232 = .ok (.ifCond .eq 5, 3) := by decide +kernel
theorem dL_law_235 : decode cL_law 235 = .ok (.iconst 0, 1) := by decide +kernel
theorem dL_law_236 : decode cL_law 236 = .ok (.ireturn, 1) := by decide +kernel
theorem dL_law_237 : decode cL_law 237 = .ok (.goto 1122, 3) := by decide +kernel
theorem dL_law_240 : decode cL_law 240 = .ok (.aload_n 1, 1) := by decide +kernel
theorem dL_law_241 : decode cL_law 241 = .ok (.invokevirtual 87, 3) := by decide +kernel
theorem dL_law_244 : decode cL_law 244 = .ok (.aload_n 2, 1) := by decide +kernel
theorem dL_law_245 : decode cL_law 245 = .ok (.invokevirtual 90, 3) := by decide +kernel
theorem dL_law_248 : decode cL_law 248 = .ok (.if_icmp .eq 1111, 3) := by decide +kernel
theorem dL_law_251 : decode cL_law 251 = .ok (.iconst 0, 1) := by decide +kernel
theorem dL_law_252 : decode cL_law 252 = .ok (.ireturn, 1) := by decide +kernel
theorem dL_law_253 : decode cL_law 253 = .ok (.aload_n 1, 1) := by decide +kernel
theorem dL_law_254 : decode cL_law 254 = .ok (.aload_n 0, 1) := by decide +kernel
theorem dL_law_255 : decode cL_law 255 = .ok (.iload 4, 2) := by decide +kernel
theorem dL_law_257 : decode cL_law 257 = .ok (.iconst 1, 1) := by decide +kernel
theorem dL_law_258 : decode cL_law 258 = .ok (.iadd, 1) := by decide +kernel
theorem dL_law_259 : decode cL_law 259 = .ok (.iaload, 1) := by decide +kernel
theorem dL_law_260 : decode cL_law 260 = .ok (.aload_n 3, 1) := by decide +kernel
theorem dL_law_261 : decode cL_law 261 = .ok (.invokestatic 91, 3) := by decide +kernel
theorem dL_law_264 : decode cL_law 264 = .ok (.istore 5, 2) := by decide +kernel
theorem dL_law_266 : decode cL_law 266 = .ok (.aload_n 2, 1) := by decide +kernel
theorem dL_law_267 : decode cL_law 267 = .ok (.aload_n 0, 1) := by decide +kernel
theorem dL_law_268 : decode cL_law 268 = .ok (.iload 4, 2) := by decide +kernel
theorem dL_law_270 : decode cL_law 270 = .ok (.iconst 1, 1) := by decide +kernel
theorem dL_law_271 : decode cL_law 271 = .ok (.iadd, 1) := by decide +kernel
theorem dL_law_272 : decode cL_law 272 = .ok (.iaload, 1) := by decide +kernel
theorem dL_law_273 : decode cL_law 273 = .ok (.invokevirtual 94, 3) := by decide +kernel
theorem dL_law_276 : decode cL_law 276 = .ok (.istore 6, 2) := by decide +kernel
theorem dL_law_278 : decode cL_law 278 = .ok (.aload_n 2, 1) := by decide +kernel
theorem dL_law_279 : decode cL_law 279 = .ok (.invokevirtual 84, 3) := by decide +kernel
theorem dL_law_282 : decode cL_law 282 = .ok (.iload 5, 2) := by decide +kernel
theorem dL_law_284 : decode cL_law 284 = .ok (.if_icmp .eq 5, 3) := by decide +kernel
theorem dL_law_287 : decode cL_law 287 = .ok (.iconst 0, 1) := by decide +kernel
theorem dL_law_288 : decode cL_law 288 = .ok (.ireturn, 1) := by decide +kernel
theorem dL_law_289 : decode cL_law 289 = .ok (.iload 5, 2) := by decide +kernel
theorem dL_law_291 : decode cL_law 291 = .ok (.ifCond .ne 15, 3) := by decide +kernel
theorem dL_law_294 : decode cL_law 294 = .ok (.aload_n 3, 1) := by decide +kernel
theorem dL_law_295 : decode cL_law 295 = .ok (.iconst 0, 1) := by decide +kernel
theorem dL_law_296 : decode cL_law 296 = .ok (.laload, 1) := by decide +kernel
theorem dL_law_297 : decode cL_law 297 = .ok (.iload 6, 2) := by decide +kernel
theorem dL_law_299 : decode cL_law 299 = .ok (.i2l, 1) := by decide +kernel
theorem dL_law_300 : decode cL_law 300 = .ok (.lcmp, 1) := by decide +kernel
theorem dL_law_301 : decode cL_law 301 = .ok (.ifCond .eq 5, 3) := by decide +kernel
theorem dL_law_304 : decode cL_law 304 = .ok (.iconst 0, 1) := by decide +kernel
theorem dL_law_305 : decode cL_law 305 = .ok (.ireturn, 1) := by decide +kernel
theorem dL_law_306 : decode cL_law 306 = .ok (.goto 1053, 3) := by decide +kernel
theorem dL_law_309 : decode cL_law 309 = .ok (.aload_n 1, 1) := by decide +kernel
theorem dL_law_310 : decode cL_law 310 = .ok (.aload_n 0, 1) := by decide +kernel
theorem dL_law_311 : decode cL_law 311 = .ok (.iload 4, 2) := by decide +kernel
theorem dL_law_313 : decode cL_law 313 = .ok (.iconst 1, 1) := by decide +kernel
theorem dL_law_314 : decode cL_law 314 = .ok (.iadd, 1) := by decide +kernel
theorem dL_law_315 : decode cL_law 315 = .ok (.iaload, 1) := by decide +kernel
theorem dL_law_316 : decode cL_law 316 = .ok (.aload_n 3, 1) := by decide +kernel
theorem dL_law_317 : decode cL_law 317 = .ok (.invokestatic 95, 3) := by decide +kernel
theorem dL_law_320 : decode cL_law 320 = .ok (.istore 5, 2) := by decide +kernel
theorem dL_law_322 : decode cL_law 322 = .ok (.aload_n 2, 1) := by decide +kernel
theorem dL_law_323 : decode cL_law 323 = .ok (.aload_n 0, 1) := by decide +kernel
theorem dL_law_324 : decode cL_law 324 = .ok (.iload 4, 2) := by decide +kernel
theorem dL_law_326 : decode cL_law 326 = .ok (.iconst 1, 1) := by decide +kernel
theorem dL_law_327 : decode cL_law 327 = .ok (.iadd, 1) := by decide +kernel
theorem dL_law_328 : decode cL_law 328 = .ok (.iaload, 1) := by decide +kernel
theorem dL_law_329 : decode cL_law 329 = .ok (.invokevirtual 97, 3) := by decide +kernel
theorem dL_law_332 : decode cL_law 332 = .ok (.istore 6, 2) := by decide +kernel
theorem dL_law_334 : decode cL_law 334 = .ok (.aload_n 2, 1) := by decide +kernel
theorem dL_law_335 : decode cL_law 335 = .ok (.invokevirtual 84, 3) := by decide +kernel
theorem dL_law_338 : decode cL_law 338 = .ok (.iload 5, 2) := by decide +kernel
theorem dL_law_340 : decode cL_law 340 = .ok (.if_icmp .eq 5, 3) := by decide +kernel
theorem dL_law_343 : decode cL_law 343 = .ok (.iconst 0, 1) := by decide +kernel
theorem dL_law_344 : decode cL_law 344 = .ok (.ireturn, 1) := by decide +kernel
theorem dL_law_345 : decode cL_law 345 = .ok (.iload 5, 2) := by decide +kernel
theorem dL_law_347 : decode cL_law 347 = .ok (.ifCond .ne 15, 3) := by decide +kernel
theorem dL_law_350 : decode cL_law 350 = .ok (.aload_n 3, 1) := by decide +kernel
theorem dL_law_351 : decode cL_law 351 = .ok (.iconst 0, 1) := by decide +kernel
theorem dL_law_352 : decode cL_law 352 = .ok (.laload, 1) := by decide +kernel
theorem dL_law_353 : decode cL_law 353 = .ok (.iload 6, 2) := by decide +kernel
theorem dL_law_355 : decode cL_law 355 = .ok (.i2l, 1) := by decide +kernel
theorem dL_law_356 : decode cL_law 356 = .ok (.lcmp, 1) := by decide +kernel
theorem dL_law_357 : decode cL_law 357 = .ok (.ifCond .eq 5, 3) := by decide +kernel
theorem dL_law_360 : decode cL_law 360 = .ok (.iconst 0, 1) := by decide +kernel
theorem dL_law_361 : decode cL_law 361 = .ok (.ireturn, 1) := by decide +kernel
theorem dL_law_362 : decode cL_law 362 = .ok (.goto 997, 3) := by decide +kernel
theorem dL_law_365 : decode cL_law 365 = .ok (.aload_n 1, 1) := by decide +kernel
theorem dL_law_366 : decode cL_law 366 = .ok (.aload_n 0, 1) := by decide +kernel
theorem dL_law_367 : decode cL_law 367 = .ok (.iload 4, 2) := by decide +kernel
theorem dL_law_369 : decode cL_law 369 = .ok (.iconst 1, 1) := by decide +kernel
theorem dL_law_370 : decode cL_law 370 = .ok (.iadd, 1) := by decide +kernel
theorem dL_law_371 : decode cL_law 371 = .ok (.iaload, 1) := by decide +kernel
theorem dL_law_372 : decode cL_law 372 = .ok (.aload_n 3, 1) := by decide +kernel
theorem dL_law_373 : decode cL_law 373 = .ok (.invokestatic 98, 3) := by decide +kernel
theorem dL_law_376 : decode cL_law 376 = .ok (.istore 5, 2) := by decide +kernel
theorem dL_law_378 : decode cL_law 378 = .ok (.aload_n 2, 1) := by decide +kernel
theorem dL_law_379 : decode cL_law 379 = .ok (.aload_n 0, 1) := by decide +kernel
theorem dL_law_380 : decode cL_law 380 = .ok (.iload 4, 2) := by decide +kernel
theorem dL_law_382 : decode cL_law 382 = .ok (.iconst 1, 1) := by decide +kernel
theorem dL_law_383 : decode cL_law 383 = .ok (.iadd, 1) := by decide +kernel
theorem dL_law_384 : decode cL_law 384 = .ok (.iaload, 1) := by decide +kernel
theorem dL_law_385 : decode cL_law 385 = .ok (.invokevirtual 100, 3) := by decide +kernel
theorem dL_law_388 : decode cL_law 388 = .ok (.istore 6, 2) := by decide +kernel
theorem dL_law_390 : decode cL_law 390 = .ok (.aload_n 2, 1) := by decide +kernel
theorem dL_law_391 : decode cL_law 391 = .ok (.invokevirtual 84, 3) := by decide +kernel
theorem dL_law_394 : decode cL_law 394 = .ok (.iload 5, 2) := by decide +kernel
theorem dL_law_396 : decode cL_law 396 = .ok (.if_icmp .eq 5, 3) := by decide +kernel
theorem dL_law_399 : decode cL_law 399 = .ok (.iconst 0, 1) := by decide +kernel
theorem dL_law_400 : decode cL_law 400 = .ok (.ireturn, 1) := by decide +kernel
theorem dL_law_401 : decode cL_law 401 = .ok (.iload 5, 2) := by decide +kernel
theorem dL_law_403 : decode cL_law 403 = .ok (.ifCond .ne 15, 3) := by decide +kernel
theorem dL_law_406 : decode cL_law 406 = .ok (.aload_n 3, 1) := by decide +kernel
theorem dL_law_407 : decode cL_law 407 = .ok (.iconst 0, 1) := by decide +kernel
theorem dL_law_408 : decode cL_law 408 = .ok (.laload, 1) := by decide +kernel
theorem dL_law_409 : decode cL_law 409 = .ok (.iload 6, 2) := by decide +kernel
theorem dL_law_411 : decode cL_law 411 = .ok (.i2l, 1) := by decide +kernel
theorem dL_law_412 : decode cL_law 412 = .ok (.lcmp, 1) := by decide +kernel
theorem dL_law_413 : decode cL_law 413 = .ok (.ifCond .eq 5, 3) := by decide +kernel
theorem dL_law_416 : decode cL_law 416 = .ok (.iconst 0, 1) := by decide +kernel
theorem dL_law_417 : decode cL_law 417 = .ok (.ireturn, 1) := by decide +kernel
theorem dL_law_418 : decode cL_law 418 = .ok (.goto 941, 3) := by decide +kernel
theorem dL_law_421 : decode cL_law 421 = .ok (.aload_n 1, 1) := by decide +kernel
theorem dL_law_422 : decode cL_law 422 = .ok (.aload_n 0, 1) := by decide +kernel
theorem dL_law_423 : decode cL_law 423 = .ok (.iload 4, 2) := by decide +kernel
theorem dL_law_425 : decode cL_law 425 = .ok (.iconst 1, 1) := by decide +kernel
theorem dL_law_426 : decode cL_law 426 = .ok (.iadd, 1) := by decide +kernel
theorem dL_law_427 : decode cL_law 427 = .ok (.iaload, 1) := by decide +kernel
theorem dL_law_428 : decode cL_law 428 = .ok (.aload_n 0, 1) := by decide +kernel
theorem dL_law_429 : decode cL_law 429 = .ok (.iload 4, 2) := by decide +kernel
theorem dL_law_431 : decode cL_law 431 = .ok (.iconst 2, 1) := by decide +kernel
theorem dL_law_432 : decode cL_law 432 = .ok (.iadd, 1) := by decide +kernel
theorem dL_law_433 : decode cL_law 433 = .ok (.iaload, 1) := by decide +kernel
theorem dL_law_434 : decode cL_law 434 = .ok (.aload_n 0, 1) := by decide +kernel
theorem dL_law_435 : decode cL_law 435 = .ok (.iload 4, 2) := by decide +kernel
theorem dL_law_437 : decode cL_law 437 = .ok (.iconst 3, 1) := by decide +kernel
theorem dL_law_438 : decode cL_law 438 = .ok (.iadd, 1) := by decide +kernel
theorem dL_law_439 : decode cL_law 439 = .ok (.iaload, 1) := by decide +kernel
theorem dL_law_440 : decode cL_law 440 = .ok (.aload_n 3, 1) := by decide +kernel
theorem dL_law_441 : decode cL_law 441 = .ok (.invokestatic 101, 3) := by decide +kernel
theorem dL_law_444 : decode cL_law 444 = .ok (.istore 5, 2) := by decide +kernel
theorem dL_law_446 : decode cL_law 446 = .ok (.aload_n 2, 1) := by decide +kernel
theorem dL_law_447 : decode cL_law 447 = .ok (.aload_n 0, 1) := by decide +kernel
theorem dL_law_448 : decode cL_law 448 = .ok (.iload 4, 2) := by decide +kernel
theorem dL_law_450 : decode cL_law 450 = .ok (.iconst 1, 1) := by decide +kernel
theorem dL_law_451 : decode cL_law 451 = .ok (.iadd, 1) := by decide +kernel
theorem dL_law_452 : decode cL_law 452 = .ok (.iaload, 1) := by decide +kernel
theorem dL_law_453 : decode cL_law 453 = .ok (.aload_n 0, 1) := by decide +kernel
theorem dL_law_454 : decode cL_law 454 = .ok (.iload 4, 2) := by decide +kernel
theorem dL_law_456 : decode cL_law 456 = .ok (.iconst 2, 1) := by decide +kernel
theorem dL_law_457 : decode cL_law 457 = .ok (.iadd, 1) := by decide +kernel
theorem dL_law_458 : decode cL_law 458 = .ok (.iaload, 1) := by decide +kernel
theorem dL_law_459 : decode cL_law 459 = .ok (.aload_n 0, 1) := by decide +kernel
theorem dL_law_460 : decode cL_law 460 = .ok (.iload 4, 2) := by decide +kernel
theorem dL_law_462 : decode cL_law 462 = .ok (.iconst 3, 1) := by decide +kernel
theorem dL_law_463 : decode cL_law 463 = .ok (.iadd, 1) := by decide +kernel
theorem dL_law_464 : decode cL_law 464 = .ok (.iaload, 1) := by decide +kernel
theorem dL_law_465 : decode cL_law 465 = .ok (.invokevirtual 104, 3) := by decide +kernel
theorem dL_law_468 : decode cL_law 468 = .ok (.istore 6, 2) := by decide +kernel
theorem dL_law_470 : decode cL_law 470 = .ok (.aload_n 2, 1) := by decide +kernel
theorem dL_law_471 : decode cL_law 471 = .ok (.invokevirtual 84, 3) := by decide +kernel
theorem dL_law_474 : decode cL_law 474 = .ok (.iload 5, 2) := by decide +kernel
theorem dL_law_476 : decode cL_law 476 = .ok (.if_icmp .eq 5, 3) := by decide +kernel
theorem dL_law_479 : decode cL_law 479 = .ok (.iconst 0, 1) := by decide +kernel
theorem dL_law_480 : decode cL_law 480 = .ok (.ireturn, 1) := by decide +kernel
theorem dL_law_481 : decode cL_law 481 = .ok (.iload 5, 2) := by decide +kernel
theorem dL_law_483 : decode cL_law 483 = .ok (.ifCond .ne 15, 3) := by decide +kernel
theorem dL_law_486 : decode cL_law 486 = .ok (.aload_n 3, 1) := by decide +kernel
theorem dL_law_487 : decode cL_law 487 = .ok (.iconst 0, 1) := by decide +kernel
theorem dL_law_488 : decode cL_law 488 = .ok (.laload, 1) := by decide +kernel
theorem dL_law_489 : decode cL_law 489 = .ok (.iload 6, 2) := by decide +kernel
theorem dL_law_491 : decode cL_law 491 = .ok (.i2l, 1) := by decide +kernel
theorem dL_law_492 : decode cL_law 492 = .ok (.lcmp, 1) := by decide +kernel
theorem dL_law_493 : decode cL_law 493 = .ok (.ifCond .eq 5, 3) := by decide +kernel
theorem dL_law_496 : decode cL_law 496 = .ok (.iconst 0, 1) := by decide +kernel
theorem dL_law_497 : decode cL_law 497 = .ok (.ireturn, 1) := by decide +kernel
theorem dL_law_498 : decode cL_law 498 = .ok (.goto 861, 3) := by decide +kernel
theorem dL_law_501 : decode cL_law 501 = .ok (.aload_n 1, 1) := by decide +kernel
theorem dL_law_502 : decode cL_law 502 = .ok (.aload_n 3, 1) := by decide +kernel
theorem dL_law_503 : decode cL_law 503 = .ok (.invokestatic 105, 3) := by decide +kernel
theorem dL_law_506 : decode cL_law 506 = .ok (.istore 5, 2) := by decide +kernel
theorem dL_law_508 : decode cL_law 508 = .ok (.aload_n 2, 1) := by decide +kernel
theorem dL_law_509 : decode cL_law 509 = .ok (.invokevirtual 108, 3) := by decide +kernel
theorem dL_law_512 : decode cL_law 512 = .ok (.istore 6, 2) := by decide +kernel
theorem dL_law_514 : decode cL_law 514 = .ok (.aload_n 2, 1) := by decide +kernel
theorem dL_law_515 : decode cL_law 515 = .ok (.invokevirtual 84, 3) := by decide +kernel
theorem dL_law_518 : decode cL_law 518 = .ok (.iload 5, 2) := by decide +kernel
theorem dL_law_520 : decode cL_law 520 = .ok (.if_icmp .eq 5, 3) := by decide +kernel
theorem dL_law_523 : decode cL_law 523 = .ok (.iconst 0, 1) := by decide +kernel
theorem dL_law_524 : decode cL_law 524 = .ok (.ireturn, 1) := by decide +kernel
theorem dL_law_525 : decode cL_law 525 = .ok (.iload 5, 2) := by decide +kernel
theorem dL_law_527 : decode cL_law 527 = .ok (.ifCond .ne 15, 3) := by decide +kernel
theorem dL_law_530 : decode cL_law 530 = .ok (.aload_n 3, 1) := by decide +kernel
theorem dL_law_531 : decode cL_law 531 = .ok (.iconst 0, 1) := by decide +kernel
theorem dL_law_532 : decode cL_law 532 = .ok (.laload, 1) := by decide +kernel
theorem dL_law_533 : decode cL_law 533 = .ok (.iload 6, 2) := by decide +kernel
theorem dL_law_535 : decode cL_law 535 = .ok (.i2l, 1) := by decide +kernel
theorem dL_law_536 : decode cL_law 536 = .ok (.lcmp, 1) := by decide +kernel
theorem dL_law_537 : decode cL_law 537 = .ok (.ifCond .eq 5, 3) := by decide +kernel
theorem dL_law_540 : decode cL_law 540 = .ok (.iconst 0, 1) := by decide +kernel
theorem dL_law_541 : decode cL_law 541 = .ok (.ireturn, 1) := by decide +kernel
theorem dL_law_542 : decode cL_law 542 = .ok (.goto 817, 3) := by decide +kernel
theorem dL_law_545 : decode cL_law 545 = .ok (.aload_n 1, 1) := by decide +kernel
theorem dL_law_546 : decode cL_law 546 = .ok (.aload_n 0, 1) := by decide +kernel
theorem dL_law_547 : decode cL_law 547 = .ok (.iload 4, 2) := by decide +kernel
theorem dL_law_549 : decode cL_law 549 = .ok (.iconst 1, 1) := by decide +kernel
theorem dL_law_550 : decode cL_law 550 = .ok (.iadd, 1) := by decide +kernel
theorem dL_law_551 : decode cL_law 551 = .ok (.iaload, 1) := by decide +kernel
theorem dL_law_552 : decode cL_law 552 = .ok (.aload_n 0, 1) := by decide +kernel
theorem dL_law_553 : decode cL_law 553 = .ok (.iload 4, 2) := by decide +kernel
theorem dL_law_555 : decode cL_law 555 = .ok (.iconst 2, 1) := by decide +kernel
theorem dL_law_556 : decode cL_law 556 = .ok (.iadd, 1) := by decide +kernel
theorem dL_law_557 : decode cL_law 557 = .ok (.iaload, 1) := by decide +kernel
theorem dL_law_558 : decode cL_law 558 = .ok (.aload_n 0, 1) := by decide +kernel
theorem dL_law_559 : decode cL_law 559 = .ok (.iload 4, 2) := by decide +kernel
theorem dL_law_561 : decode cL_law 561 = .ok (.iconst 3, 1) := by decide +kernel
theorem dL_law_562 : decode cL_law 562 = .ok (.iadd, 1) := by decide +kernel
theorem dL_law_563 : decode cL_law 563 = .ok (.iaload, 1) := by decide +kernel
theorem dL_law_564 : decode cL_law 564 = .ok (.aload_n 0, 1) := by decide +kernel
theorem dL_law_565 : decode cL_law 565 = .ok (.iload 4, 2) := by decide +kernel
theorem dL_law_567 : decode cL_law 567 = .ok (.iconst 4, 1) := by decide +kernel
theorem dL_law_568 : decode cL_law 568 = .ok (.iadd, 1) := by decide +kernel
theorem dL_law_569 : decode cL_law 569 = .ok (.iaload, 1) := by decide +kernel
theorem dL_law_570 : decode cL_law 570 = .ok (.aload_n 3, 1) := by decide +kernel
theorem dL_law_571 : decode cL_law 571 = .ok (.invokestatic 109, 3) := by decide +kernel
theorem dL_law_574 : decode cL_law 574 = .ok (.istore 5, 2) := by decide +kernel
theorem dL_law_576 : decode cL_law 576 = .ok (.aload_n 2, 1) := by decide +kernel
theorem dL_law_577 : decode cL_law 577 = .ok (.aload_n 0, 1) := by decide +kernel
theorem dL_law_578 : decode cL_law 578 = .ok (.iload 4, 2) := by decide +kernel
theorem dL_law_580 : decode cL_law 580 = .ok (.iconst 1, 1) := by decide +kernel
theorem dL_law_581 : decode cL_law 581 = .ok (.iadd, 1) := by decide +kernel
theorem dL_law_582 : decode cL_law 582 = .ok (.iaload, 1) := by decide +kernel
theorem dL_law_583 : decode cL_law 583 = .ok (.aload_n 0, 1) := by decide +kernel
theorem dL_law_584 : decode cL_law 584 = .ok (.iload 4, 2) := by decide +kernel
theorem dL_law_586 : decode cL_law 586 = .ok (.iconst 2, 1) := by decide +kernel
theorem dL_law_587 : decode cL_law 587 = .ok (.iadd, 1) := by decide +kernel
theorem dL_law_588 : decode cL_law 588 = .ok (.iaload, 1) := by decide +kernel
theorem dL_law_589 : decode cL_law 589 = .ok (.aload_n 0, 1) := by decide +kernel
theorem dL_law_590 : decode cL_law 590 = .ok (.iload 4, 2) := by decide +kernel
theorem dL_law_592 : decode cL_law 592 = .ok (.iconst 3, 1) := by decide +kernel
theorem dL_law_593 : decode cL_law 593 = .ok (.iadd, 1) := by decide +kernel
theorem dL_law_594 : decode cL_law 594 = .ok (.iaload, 1) := by decide +kernel
theorem dL_law_595 : decode cL_law 595 = .ok (.aload_n 0, 1) := by decide +kernel
theorem dL_law_596 : decode cL_law 596 = .ok (.iload 4, 2) := by decide +kernel
theorem dL_law_598 : decode cL_law 598 = .ok (.iconst 4, 1) := by decide +kernel
theorem dL_law_599 : decode cL_law 599 = .ok (.iadd, 1) := by decide +kernel
theorem dL_law_600 : decode cL_law 600 = .ok (.iaload, 1) := by decide +kernel
theorem dL_law_601 : decode cL_law 601 = .ok (.invokevirtual 111, 3) := by decide +kernel
theorem dL_law_604 : decode cL_law 604 = .ok (.istore 6, 2) := by decide +kernel
theorem dL_law_606 : decode cL_law 606 = .ok (.aload_n 2, 1) := by decide +kernel
theorem dL_law_607 : decode cL_law 607 = .ok (.invokevirtual 84, 3) := by decide +kernel
theorem dL_law_610 : decode cL_law 610 = .ok (.iload 5, 2) := by decide +kernel
theorem dL_law_612 : decode cL_law 612 = .ok (.if_icmp .eq 5, 3) := by decide +kernel
theorem dL_law_615 : decode cL_law 615 = .ok (.iconst 0, 1) := by decide +kernel
theorem dL_law_616 : decode cL_law 616 = .ok (.ireturn, 1) := by decide +kernel
theorem dL_law_617 : decode cL_law 617 = .ok (.iload 5, 2) := by decide +kernel
theorem dL_law_619 : decode cL_law 619 = .ok (.ifCond .ne 15, 3) := by decide +kernel
theorem dL_law_622 : decode cL_law 622 = .ok (.aload_n 3, 1) := by decide +kernel
theorem dL_law_623 : decode cL_law 623 = .ok (.iconst 0, 1) := by decide +kernel
theorem dL_law_624 : decode cL_law 624 = .ok (.laload, 1) := by decide +kernel
theorem dL_law_625 : decode cL_law 625 = .ok (.iload 6, 2) := by decide +kernel
theorem dL_law_627 : decode cL_law 627 = .ok (.i2l, 1) := by decide +kernel
theorem dL_law_628 : decode cL_law 628 = .ok (.lcmp, 1) := by decide +kernel
theorem dL_law_629 : decode cL_law 629 = .ok (.ifCond .eq 5, 3) := by decide +kernel
theorem dL_law_632 : decode cL_law 632 = .ok (.iconst 0, 1) := by decide +kernel
theorem dL_law_633 : decode cL_law 633 = .ok (.ireturn, 1) := by decide +kernel
theorem dL_law_634 : decode cL_law 634 = .ok (.goto 725, 3) := by decide +kernel
theorem dL_law_637 : decode cL_law 637 = .ok (.aload_n 1, 1) := by decide +kernel
theorem dL_law_638 : decode cL_law 638 = .ok (.aload_n 3, 1) := by decide +kernel
theorem dL_law_639 : decode cL_law 639 = .ok (.invokestatic 112, 3) := by decide +kernel
theorem dL_law_642 : decode cL_law 642 = .ok (.istore 5, 2) := by decide +kernel
theorem dL_law_644 : decode cL_law 644 = .ok (.aload_n 2, 1) := by decide +kernel
theorem dL_law_645 : decode cL_law 645 = .ok (.invokevirtual 114, 3) := by decide +kernel
theorem dL_law_648 : decode cL_law 648 = .ok (.istore 6, 2) := by decide +kernel
theorem dL_law_650 : decode cL_law 650 = .ok (.aload_n 2, 1) := by decide +kernel
theorem dL_law_651 : decode cL_law 651 = .ok (.invokevirtual 84, 3) := by decide +kernel
theorem dL_law_654 : decode cL_law 654 = .ok (.iload 5, 2) := by decide +kernel
theorem dL_law_656 : decode cL_law 656 = .ok (.if_icmp .eq 5, 3) := by decide +kernel
theorem dL_law_659 : decode cL_law 659 = .ok (.iconst 0, 1) := by decide +kernel
theorem dL_law_660 : decode cL_law 660 = .ok (.ireturn, 1) := by decide +kernel
theorem dL_law_661 : decode cL_law 661 = .ok (.iload 5, 2) := by decide +kernel
theorem dL_law_663 : decode cL_law 663 = .ok (.ifCond .ne 15, 3) := by decide +kernel
theorem dL_law_666 : decode cL_law 666 = .ok (.aload_n 3, 1) := by decide +kernel
theorem dL_law_667 : decode cL_law 667 = .ok (.iconst 0, 1) := by decide +kernel
theorem dL_law_668 : decode cL_law 668 = .ok (.laload, 1) := by decide +kernel
theorem dL_law_669 : decode cL_law 669 = .ok (.iload 6, 2) := by decide +kernel
theorem dL_law_671 : decode cL_law 671 = .ok (.i2l, 1) := by decide +kernel
theorem dL_law_672 : decode cL_law 672 = .ok (.lcmp, 1) := by decide +kernel
theorem dL_law_673 : decode cL_law 673 = .ok (.ifCond .eq 5, 3) := by decide +kernel
theorem dL_law_676 : decode cL_law 676 = .ok (.iconst 0, 1) := by decide +kernel
theorem dL_law_677 : decode cL_law 677 = .ok (.ireturn, 1) := by decide +kernel
theorem dL_law_678 : decode cL_law 678 = .ok (.goto 681, 3) := by decide +kernel
theorem dL_law_681 : decode cL_law 681 = .ok (.aload_n 1, 1) := by decide +kernel
theorem dL_law_682 : decode cL_law 682 = .ok (.aload_n 0, 1) := by decide +kernel
theorem dL_law_683 : decode cL_law 683 = .ok (.iload 4, 2) := by decide +kernel
theorem dL_law_685 : decode cL_law 685 = .ok (.iconst 1, 1) := by decide +kernel
theorem dL_law_686 : decode cL_law 686 = .ok (.iadd, 1) := by decide +kernel
theorem dL_law_687 : decode cL_law 687 = .ok (.iaload, 1) := by decide +kernel
theorem dL_law_688 : decode cL_law 688 = .ok (.aload_n 3, 1) := by decide +kernel
theorem dL_law_689 : decode cL_law 689 = .ok (.invokestatic 115, 3) := by decide +kernel
theorem dL_law_692 : decode cL_law 692 = .ok (.istore 5, 2) := by decide +kernel
theorem dL_law_694 : decode cL_law 694 = .ok (.aload_n 2, 1) := by decide +kernel
theorem dL_law_695 : decode cL_law 695 = .ok (.aload_n 0, 1) := by decide +kernel
theorem dL_law_696 : decode cL_law 696 = .ok (.iload 4, 2) := by decide +kernel
theorem dL_law_698 : decode cL_law 698 = .ok (.iconst 1, 1) := by decide +kernel
theorem dL_law_699 : decode cL_law 699 = .ok (.iadd, 1) := by decide +kernel
theorem dL_law_700 : decode cL_law 700 = .ok (.iaload, 1) := by decide +kernel
theorem dL_law_701 : decode cL_law 701 = .ok (.invokevirtual 117, 3) := by decide +kernel
theorem dL_law_704 : decode cL_law 704 = .ok (.istore 6, 2) := by decide +kernel
theorem dL_law_706 : decode cL_law 706 = .ok (.aload_n 2, 1) := by decide +kernel
theorem dL_law_707 : decode cL_law 707 = .ok (.invokevirtual 84, 3) := by decide +kernel
theorem dL_law_710 : decode cL_law 710 = .ok (.iload 5, 2) := by decide +kernel
theorem dL_law_712 : decode cL_law 712 = .ok (.if_icmp .eq 5, 3) := by decide +kernel
theorem dL_law_715 : decode cL_law 715 = .ok (.iconst 0, 1) := by decide +kernel
theorem dL_law_716 : decode cL_law 716 = .ok (.ireturn, 1) := by decide +kernel
theorem dL_law_717 : decode cL_law 717 = .ok (.iload 5, 2) := by decide +kernel
theorem dL_law_719 : decode cL_law 719 = .ok (.ifCond .ne 15, 3) := by decide +kernel
theorem dL_law_722 : decode cL_law 722 = .ok (.aload_n 3, 1) := by decide +kernel
theorem dL_law_723 : decode cL_law 723 = .ok (.iconst 0, 1) := by decide +kernel
theorem dL_law_724 : decode cL_law 724 = .ok (.laload, 1) := by decide +kernel
theorem dL_law_725 : decode cL_law 725 = .ok (.iload 6, 2) := by decide +kernel
theorem dL_law_727 : decode cL_law 727 = .ok (.i2l, 1) := by decide +kernel
theorem dL_law_728 : decode cL_law 728 = .ok (.lcmp, 1) := by decide +kernel
theorem dL_law_729 : decode cL_law 729 = .ok (.ifCond .eq 5, 3) := by decide +kernel
theorem dL_law_732 : decode cL_law 732 = .ok (.iconst 0, 1) := by decide +kernel
theorem dL_law_733 : decode cL_law 733 = .ok (.ireturn, 1) := by decide +kernel
theorem dL_law_734 : decode cL_law 734 = .ok (.goto 625, 3) := by decide +kernel
theorem dL_law_737 : decode cL_law 737 = .ok (.aload_n 1, 1) := by decide +kernel
theorem dL_law_738 : decode cL_law 738 = .ok (.aload_n 0, 1) := by decide +kernel
theorem dL_law_739 : decode cL_law 739 = .ok (.iload 4, 2) := by decide +kernel
theorem dL_law_741 : decode cL_law 741 = .ok (.iconst 1, 1) := by decide +kernel
theorem dL_law_742 : decode cL_law 742 = .ok (.iadd, 1) := by decide +kernel
theorem dL_law_743 : decode cL_law 743 = .ok (.iaload, 1) := by decide +kernel
theorem dL_law_744 : decode cL_law 744 = .ok (.aload_n 3, 1) := by decide +kernel
theorem dL_law_745 : decode cL_law 745 = .ok (.invokestatic 118, 3) := by decide +kernel
theorem dL_law_748 : decode cL_law 748 = .ok (.istore 5, 2) := by decide +kernel
theorem dL_law_750 : decode cL_law 750 = .ok (.aload_n 2, 1) := by decide +kernel
theorem dL_law_751 : decode cL_law 751 = .ok (.aload_n 0, 1) := by decide +kernel
theorem dL_law_752 : decode cL_law 752 = .ok (.iload 4, 2) := by decide +kernel
theorem dL_law_754 : decode cL_law 754 = .ok (.iconst 1, 1) := by decide +kernel
theorem dL_law_755 : decode cL_law 755 = .ok (.iadd, 1) := by decide +kernel
theorem dL_law_756 : decode cL_law 756 = .ok (.iaload, 1) := by decide +kernel
theorem dL_law_757 : decode cL_law 757 = .ok (.invokevirtual 120, 3) := by decide +kernel
theorem dL_law_760 : decode cL_law 760 = .ok (.istore 6, 2) := by decide +kernel
theorem dL_law_762 : decode cL_law 762 = .ok (.aload_n 2, 1) := by decide +kernel
theorem dL_law_763 : decode cL_law 763 = .ok (.invokevirtual 84, 3) := by decide +kernel
theorem dL_law_766 : decode cL_law 766 = .ok (.iload 5, 2) := by decide +kernel
theorem dL_law_768 : decode cL_law 768 = .ok (.if_icmp .eq 5, 3) := by decide +kernel
theorem dL_law_771 : decode cL_law 771 = .ok (.iconst 0, 1) := by decide +kernel
theorem dL_law_772 : decode cL_law 772 = .ok (.ireturn, 1) := by decide +kernel
theorem dL_law_773 : decode cL_law 773 = .ok (.iload 5, 2) := by decide +kernel
theorem dL_law_775 : decode cL_law 775 = .ok (.ifCond .ne 15, 3) := by decide +kernel
theorem dL_law_778 : decode cL_law 778 = .ok (.aload_n 3, 1) := by decide +kernel
theorem dL_law_779 : decode cL_law 779 = .ok (.iconst 0, 1) := by decide +kernel
theorem dL_law_780 : decode cL_law 780 = .ok (.laload, 1) := by decide +kernel
theorem dL_law_781 : decode cL_law 781 = .ok (.iload 6, 2) := by decide +kernel
theorem dL_law_783 : decode cL_law 783 = .ok (.i2l, 1) := by decide +kernel
theorem dL_law_784 : decode cL_law 784 = .ok (.lcmp, 1) := by decide +kernel
theorem dL_law_785 : decode cL_law 785 = .ok (.ifCond .eq 5, 3) := by decide +kernel
theorem dL_law_788 : decode cL_law 788 = .ok (.iconst 0, 1) := by decide +kernel
theorem dL_law_789 : decode cL_law 789 = .ok (.ireturn, 1) := by decide +kernel
theorem dL_law_790 : decode cL_law 790 = .ok (.goto 569, 3) := by decide +kernel
theorem dL_law_793 : decode cL_law 793 = .ok (.aload_n 1, 1) := by decide +kernel
theorem dL_law_794 : decode cL_law 794 = .ok (.invokevirtual 121, 3) := by decide +kernel
theorem dL_law_797 : decode cL_law 797 = .ok (.aload_n 2, 1) := by decide +kernel
theorem dL_law_798 : decode cL_law 798 = .ok (.invokevirtual 124, 3) := by decide +kernel
theorem dL_law_801 : decode cL_law 801 = .ok (.if_icmp .eq 558, 3) := by decide +kernel
theorem dL_law_804 : decode cL_law 804 = .ok (.iconst 0, 1) := by decide +kernel
theorem dL_law_805 : decode cL_law 805 = .ok (.ireturn, 1) := by decide +kernel
theorem dL_law_806 : decode cL_law 806 = .ok (.aload_n 1, 1) := by decide +kernel
theorem dL_law_807 : decode cL_law 807 = .ok (.invokevirtual 125, 3) := by decide +kernel
theorem dL_law_810 : decode cL_law 810 = .ok (.aload_n 2, 1) := by decide +kernel
theorem dL_law_811 : decode cL_law 811 = .ok (.invokevirtual 128, 3) := by decide +kernel
theorem dL_law_814 : decode cL_law 814 = .ok (.if_icmp .eq 545, 3) := by decide +kernel
theorem dL_law_817 : decode cL_law 817 = .ok (.iconst 0, 1) := by decide +kernel
theorem dL_law_818 : decode cL_law 818 = .ok (.ireturn, 1) := by decide +kernel
theorem dL_law_819 : decode cL_law 819 = .ok (.aload_n 1, 1) := by decide +kernel
theorem dL_law_820 : decode cL_law 820 = .ok (.aload_n 3, 1) := by decide +kernel
theorem dL_law_821 : decode cL_law 821 = .ok (.invokestatic 129, 3) := by decide +kernel
theorem dL_law_824 : decode cL_law 824 = .ok (.istore 5, 2) := by decide +kernel
theorem dL_law_826 : decode cL_law 826 = .ok (.aload_n 2, 1) := by decide +kernel
theorem dL_law_827 : decode cL_law 827 = .ok (.invokevirtual 131, 3) := by decide +kernel
theorem dL_law_830 : decode cL_law 830 = .ok (.istore 6, 2) := by decide +kernel
theorem dL_law_832 : decode cL_law 832 = .ok (.aload_n 2, 1) := by decide +kernel
theorem dL_law_833 : decode cL_law 833 = .ok (.invokevirtual 84, 3) := by decide +kernel
theorem dL_law_836 : decode cL_law 836 = .ok (.iload 5, 2) := by decide +kernel
theorem dL_law_838 : decode cL_law 838 = .ok (.if_icmp .eq 5, 3) := by decide +kernel
theorem dL_law_841 : decode cL_law 841 = .ok (.iconst 0, 1) := by decide +kernel
theorem dL_law_842 : decode cL_law 842 = .ok (.ireturn, 1) := by decide +kernel
theorem dL_law_843 : decode cL_law 843 = .ok (.iload 5, 2) := by decide +kernel
theorem dL_law_845 : decode cL_law 845 = .ok (.ifCond .ne 15, 3) := by decide +kernel
theorem dL_law_848 : decode cL_law 848 = .ok (.aload_n 3, 1) := by decide +kernel
theorem dL_law_849 : decode cL_law 849 = .ok (.iconst 0, 1) := by decide +kernel
theorem dL_law_850 : decode cL_law 850 = .ok (.laload, 1) := by decide +kernel
theorem dL_law_851 : decode cL_law 851 = .ok (.iload 6, 2) := by decide +kernel
theorem dL_law_853 : decode cL_law 853 = .ok (.i2l, 1) := by decide +kernel
theorem dL_law_854 : decode cL_law 854 = .ok (.lcmp, 1) := by decide +kernel
theorem dL_law_855 : decode cL_law 855 = .ok (.ifCond .eq 5, 3) := by decide +kernel
theorem dL_law_858 : decode cL_law 858 = .ok (.iconst 0, 1) := by decide +kernel
theorem dL_law_859 : decode cL_law 859 = .ok (.ireturn, 1) := by decide +kernel
theorem dL_law_860 : decode cL_law 860 = .ok (.goto 499, 3) := by decide +kernel
theorem dL_law_863 : decode cL_law 863 = .ok (.aload_n 1, 1) := by decide +kernel
theorem dL_law_864 : decode cL_law 864 = .ok (.aload_n 3, 1) := by decide +kernel
theorem dL_law_865 : decode cL_law 865 = .ok (.invokestatic 132, 3) := by decide +kernel
theorem dL_law_868 : decode cL_law 868 = .ok (.istore 5, 2) := by decide +kernel
theorem dL_law_870 : decode cL_law 870 = .ok (.aload_n 2, 1) := by decide +kernel
theorem dL_law_871 : decode cL_law 871 = .ok (.invokevirtual 134, 3) := by decide +kernel
theorem dL_law_874 : decode cL_law 874 = .ok (.istore 6, 2) := by decide +kernel
theorem dL_law_876 : decode cL_law 876 = .ok (.aload_n 2, 1) := by decide +kernel
theorem dL_law_877 : decode cL_law 877 = .ok (.invokevirtual 84, 3) := by decide +kernel
theorem dL_law_880 : decode cL_law 880 = .ok (.iload 5, 2) := by decide +kernel
theorem dL_law_882 : decode cL_law 882 = .ok (.if_icmp .eq 5, 3) := by decide +kernel
theorem dL_law_885 : decode cL_law 885 = .ok (.iconst 0, 1) := by decide +kernel
theorem dL_law_886 : decode cL_law 886 = .ok (.ireturn, 1) := by decide +kernel
theorem dL_law_887 : decode cL_law 887 = .ok (.iload 5, 2) := by decide +kernel
theorem dL_law_889 : decode cL_law 889 = .ok (.ifCond .ne 15, 3) := by decide +kernel
theorem dL_law_892 : decode cL_law 892 = .ok (.aload_n 3, 1) := by decide +kernel
theorem dL_law_893 : decode cL_law 893 = .ok (.iconst 0, 1) := by decide +kernel
theorem dL_law_894 : decode cL_law 894 = .ok (.laload, 1) := by decide +kernel
theorem dL_law_895 : decode cL_law 895 = .ok (.iload 6, 2) := by decide +kernel
theorem dL_law_897 : decode cL_law 897 = .ok (.i2l, 1) := by decide +kernel
theorem dL_law_898 : decode cL_law 898 = .ok (.lcmp, 1) := by decide +kernel
theorem dL_law_899 : decode cL_law 899 = .ok (.ifCond .eq 5, 3) := by decide +kernel
theorem dL_law_902 : decode cL_law 902 = .ok (.iconst 0, 1) := by decide +kernel
theorem dL_law_903 : decode cL_law 903 = .ok (.ireturn, 1) := by decide +kernel
theorem dL_law_904 : decode cL_law 904 = .ok (.goto 455, 3) := by decide +kernel
theorem dL_law_907 : decode cL_law 907 = .ok (.aload_n 1, 1) := by decide +kernel
theorem dL_law_908 : decode cL_law 908 = .ok (.aload_n 0, 1) := by decide +kernel
theorem dL_law_909 : decode cL_law 909 = .ok (.iload 4, 2) := by decide +kernel
theorem dL_law_911 : decode cL_law 911 = .ok (.iconst 1, 1) := by decide +kernel
theorem dL_law_912 : decode cL_law 912 = .ok (.iadd, 1) := by decide +kernel
theorem dL_law_913 : decode cL_law 913 = .ok (.iaload, 1) := by decide +kernel
theorem dL_law_914 : decode cL_law 914 = .ok (.aload_n 0, 1) := by decide +kernel
theorem dL_law_915 : decode cL_law 915 = .ok (.iload 4, 2) := by decide +kernel
theorem dL_law_917 : decode cL_law 917 = .ok (.iconst 2, 1) := by decide +kernel
theorem dL_law_918 : decode cL_law 918 = .ok (.iadd, 1) := by decide +kernel
theorem dL_law_919 : decode cL_law 919 = .ok (.iaload, 1) := by decide +kernel
theorem dL_law_920 : decode cL_law 920 = .ok (.aload_n 3, 1) := by decide +kernel
theorem dL_law_921 : decode cL_law 921 = .ok (.invokestatic 135, 3) := by decide +kernel
theorem dL_law_924 : decode cL_law 924 = .ok (.istore 5, 2) := by decide +kernel
theorem dL_law_926 : decode cL_law 926 = .ok (.aload_n 2, 1) := by decide +kernel
theorem dL_law_927 : decode cL_law 927 = .ok (.aload_n 0, 1) := by decide +kernel
theorem dL_law_928 : decode cL_law 928 = .ok (.iload 4, 2) := by decide +kernel
theorem dL_law_930 : decode cL_law 930 = .ok (.iconst 1, 1) := by decide +kernel
theorem dL_law_931 : decode cL_law 931 = .ok (.iadd, 1) := by decide +kernel
theorem dL_law_932 : decode cL_law 932 = .ok (.iaload, 1) := by decide +kernel
theorem dL_law_933 : decode cL_law 933 = .ok (.aload_n 0, 1) := by decide +kernel
theorem dL_law_934 : decode cL_law 934 = .ok (.iload 4, 2) := by decide +kernel
theorem dL_law_936 : decode cL_law 936 = .ok (.iconst 2, 1) := by decide +kernel
theorem dL_law_937 : decode cL_law 937 = .ok (.iadd, 1) := by decide +kernel
theorem dL_law_938 : decode cL_law 938 = .ok (.iaload, 1) := by decide +kernel
theorem dL_law_939 : decode cL_law 939 = .ok (.invokevirtual 138, 3) := by decide +kernel
theorem dL_law_942 : decode cL_law 942 = .ok (.istore 6, 2) := by decide +kernel
theorem dL_law_944 : decode cL_law 944 = .ok (.aload_n 2, 1) := by decide +kernel
theorem dL_law_945 : decode cL_law 945 = .ok (.invokevirtual 84, 3) := by decide +kernel
theorem dL_law_948 : decode cL_law 948 = .ok (.iload 5, 2) := by decide +kernel
theorem dL_law_950 : decode cL_law 950 = .ok (.if_icmp .eq 5, 3) := by decide +kernel
theorem dL_law_953 : decode cL_law 953 = .ok (.iconst 0, 1) := by decide +kernel
theorem dL_law_954 : decode cL_law 954 = .ok (.ireturn, 1) := by decide +kernel
theorem dL_law_955 : decode cL_law 955 = .ok (.iload 5, 2) := by decide +kernel
theorem dL_law_957 : decode cL_law 957 = .ok (.ifCond .ne 15, 3) := by decide +kernel
theorem dL_law_960 : decode cL_law 960 = .ok (.aload_n 3, 1) := by decide +kernel
theorem dL_law_961 : decode cL_law 961 = .ok (.iconst 0, 1) := by decide +kernel
theorem dL_law_962 : decode cL_law 962 = .ok (.laload, 1) := by decide +kernel
theorem dL_law_963 : decode cL_law 963 = .ok (.iload 6, 2) := by decide +kernel
theorem dL_law_965 : decode cL_law 965 = .ok (.i2l, 1) := by decide +kernel
theorem dL_law_966 : decode cL_law 966 = .ok (.lcmp, 1) := by decide +kernel
theorem dL_law_967 : decode cL_law 967 = .ok (.ifCond .eq 5, 3) := by decide +kernel
theorem dL_law_970 : decode cL_law 970 = .ok (.iconst 0, 1) := by decide +kernel
theorem dL_law_971 : decode cL_law 971 = .ok (.ireturn, 1) := by decide +kernel
theorem dL_law_972 : decode cL_law 972 = .ok (.goto 387, 3) := by decide +kernel
theorem dL_law_975 : decode cL_law 975 = .ok (.aload_n 1, 1) := by decide +kernel
theorem dL_law_976 : decode cL_law 976 = .ok (.aload_n 0, 1) := by decide +kernel
theorem dL_law_977 : decode cL_law 977 = .ok (.iload 4, 2) := by decide +kernel
theorem dL_law_979 : decode cL_law 979 = .ok (.iconst 1, 1) := by decide +kernel
theorem dL_law_980 : decode cL_law 980 = .ok (.iadd, 1) := by decide +kernel
theorem dL_law_981 : decode cL_law 981 = .ok (.iaload, 1) := by decide +kernel
theorem dL_law_982 : decode cL_law 982 = .ok (.aload_n 0, 1) := by decide +kernel
theorem dL_law_983 : decode cL_law 983 = .ok (.iload 4, 2) := by decide +kernel
theorem dL_law_985 : decode cL_law 985 = .ok (.iconst 2, 1) := by decide +kernel
theorem dL_law_986 : decode cL_law 986 = .ok (.iadd, 1) := by decide +kernel
theorem dL_law_987 : decode cL_law 987 = .ok (.iaload, 1) := by decide +kernel
theorem dL_law_988 : decode cL_law 988 = .ok (.aload_n 3, 1) := by decide +kernel
theorem dL_law_989 : decode cL_law 989 = .ok (.invokestatic 139, 3) := by decide +kernel
theorem dL_law_992 : decode cL_law 992 = .ok (.istore 5, 2) := by decide +kernel
theorem dL_law_994 : decode cL_law 994 = .ok (.aload_n 2, 1) := by decide +kernel
theorem dL_law_995 : decode cL_law 995 = .ok (.aload_n 0, 1) := by decide +kernel
theorem dL_law_996 : decode cL_law 996 = .ok (.iload 4, 2) := by decide +kernel
theorem dL_law_998 : decode cL_law 998 = .ok (.iconst 1, 1) := by decide +kernel
theorem dL_law_999 : decode cL_law 999 = .ok (.iadd, 1) := by decide +kernel
theorem dL_law_1000 : decode cL_law 1000 = .ok (.iaload, 1) := by decide +kernel
theorem dL_law_1001 : decode cL_law 1001 = .ok (.aload_n 0, 1) := by decide +kernel
theorem dL_law_1002 : decode cL_law 1002 = .ok (.iload 4, 2) := by decide +kernel
theorem dL_law_1004 : decode cL_law 1004 = .ok (.iconst 2, 1) := by decide +kernel
theorem dL_law_1005 : decode cL_law 1005 = .ok (.iadd, 1) := by decide +kernel
theorem dL_law_1006 : decode cL_law 1006 = .ok (.iaload, 1) := by decide +kernel
theorem dL_law_1007 : decode cL_law 1007 = .ok (.invokevirtual 141, 3) := by decide +kernel
theorem dL_law_1010 : decode cL_law 1010 = .ok (.istore 6, 2) := by decide +kernel
theorem dL_law_1012 : decode cL_law 1012 = .ok (.aload_n 2, 1) := by decide +kernel
theorem dL_law_1013 : decode cL_law 1013 = .ok (.invokevirtual 84, 3) := by decide +kernel
theorem dL_law_1016 : decode cL_law 1016 = .ok (.iload 5, 2) := by decide +kernel
theorem dL_law_1018 : decode cL_law 1018 = .ok (.if_icmp .eq 5, 3) := by decide +kernel
theorem dL_law_1021 : decode cL_law 1021 = .ok (.iconst 0, 1) := by decide +kernel
theorem dL_law_1022 : decode cL_law 1022 = .ok (.ireturn, 1) := by decide +kernel
theorem dL_law_1023 : decode cL_law 1023 = .ok (.iload 5, 2) := by decide +kernel
theorem dL_law_1025 : decode cL_law 1025 = .ok (.ifCond .ne 15, 3) := by decide +kernel
theorem dL_law_1028 : decode cL_law 1028 = .ok (.aload_n 3, 1) := by decide +kernel
theorem dL_law_1029 : decode cL_law 1029 = .ok (.iconst 0, 1) := by decide +kernel
theorem dL_law_1030 : decode cL_law 1030 = .ok (.laload, 1) := by decide +kernel
theorem dL_law_1031 : decode cL_law 1031 = .ok (.iload 6, 2) := by decide +kernel
theorem dL_law_1033 : decode cL_law 1033 = .ok (.i2l, 1) := by decide +kernel
theorem dL_law_1034 : decode cL_law 1034 = .ok (.lcmp, 1) := by decide +kernel
theorem dL_law_1035 : decode cL_law 1035 = .ok (.ifCond .eq 5, 3) := by decide +kernel
theorem dL_law_1038 : decode cL_law 1038 = .ok (.iconst 0, 1) := by decide +kernel
theorem dL_law_1039 : decode cL_law 1039 = .ok (.ireturn, 1) := by decide +kernel
theorem dL_law_1040 : decode cL_law 1040 = .ok (.goto 319, 3) := by decide +kernel
theorem dL_law_1043 : decode cL_law 1043 = .ok (.aload_n 1, 1) := by decide +kernel
theorem dL_law_1044 : decode cL_law 1044 = .ok (.aload_n 0, 1) := by decide +kernel
theorem dL_law_1045 : decode cL_law 1045 = .ok (.iload 4, 2) := by decide +kernel
theorem dL_law_1047 : decode cL_law 1047 = .ok (.iconst 1, 1) := by decide +kernel
theorem dL_law_1048 : decode cL_law 1048 = .ok (.iadd, 1) := by decide +kernel
theorem dL_law_1049 : decode cL_law 1049 = .ok (.iaload, 1) := by decide +kernel
theorem dL_law_1050 : decode cL_law 1050 = .ok (.aload_n 3, 1) := by decide +kernel
theorem dL_law_1051 : decode cL_law 1051 = .ok (.invokestatic 142, 3) := by decide +kernel
theorem dL_law_1054 : decode cL_law 1054 = .ok (.istore 5, 2) := by decide +kernel
theorem dL_law_1056 : decode cL_law 1056 = .ok (.aload_n 2, 1) := by decide +kernel
theorem dL_law_1057 : decode cL_law 1057 = .ok (.aload_n 0, 1) := by decide +kernel
theorem dL_law_1058 : decode cL_law 1058 = .ok (.iload 4, 2) := by decide +kernel
theorem dL_law_1060 : decode cL_law 1060 = .ok (.iconst 1, 1) := by decide +kernel
theorem dL_law_1061 : decode cL_law 1061 = .ok (.iadd, 1) := by decide +kernel
theorem dL_law_1062 : decode cL_law 1062 = .ok (.iaload, 1) := by decide +kernel
theorem dL_law_1063 : decode cL_law 1063 = .ok (.invokevirtual 144, 3) := by decide +kernel
theorem dL_law_1066 : decode cL_law 1066 = .ok (.istore 6, 2) := by decide +kernel
theorem dL_law_1068 : decode cL_law 1068 = .ok (.aload_n 2, 1) := by decide +kernel
theorem dL_law_1069 : decode cL_law 1069 = .ok (.invokevirtual 84, 3) := by decide +kernel
theorem dL_law_1072 : decode cL_law 1072 = .ok (.iload 5, 2) := by decide +kernel
theorem dL_law_1074 : decode cL_law 1074 = .ok (.if_icmp .eq 5, 3) := by decide +kernel
theorem dL_law_1077 : decode cL_law 1077 = .ok (.iconst 0, 1) := by decide +kernel
theorem dL_law_1078 : decode cL_law 1078 = .ok (.ireturn, 1) := by decide +kernel
theorem dL_law_1079 : decode cL_law 1079 = .ok (.iload 5, 2) := by decide +kernel
theorem dL_law_1081 : decode cL_law 1081 = .ok (.ifCond .ne 15, 3) := by decide +kernel
theorem dL_law_1084 : decode cL_law 1084 = .ok (.aload_n 3, 1) := by decide +kernel
theorem dL_law_1085 : decode cL_law 1085 = .ok (.iconst 0, 1) := by decide +kernel
theorem dL_law_1086 : decode cL_law 1086 = .ok (.laload, 1) := by decide +kernel
theorem dL_law_1087 : decode cL_law 1087 = .ok (.iload 6, 2) := by decide +kernel
theorem dL_law_1089 : decode cL_law 1089 = .ok (.i2l, 1) := by decide +kernel
theorem dL_law_1090 : decode cL_law 1090 = .ok (.lcmp, 1) := by decide +kernel
theorem dL_law_1091 : decode cL_law 1091 = .ok (.ifCond .eq 5, 3) := by decide +kernel
theorem dL_law_1094 : decode cL_law 1094 = .ok (.iconst 0, 1) := by decide +kernel
theorem dL_law_1095 : decode cL_law 1095 = .ok (.ireturn, 1) := by decide +kernel
theorem dL_law_1096 : decode cL_law 1096 = .ok (.goto 263, 3) := by decide +kernel
theorem dL_law_1099 : decode cL_law 1099 = .ok (.aload_n 1, 1) := by decide +kernel
theorem dL_law_1100 : decode cL_law 1100 = .ok (.aload_n 0, 1) := by decide +kernel
theorem dL_law_1101 : decode cL_law 1101 = .ok (.iload 4, 2) := by decide +kernel
theorem dL_law_1103 : decode cL_law 1103 = .ok (.iconst 1, 1) := by decide +kernel
theorem dL_law_1104 : decode cL_law 1104 = .ok (.iadd, 1) := by decide +kernel
theorem dL_law_1105 : decode cL_law 1105 = .ok (.iaload, 1) := by decide +kernel
theorem dL_law_1106 : decode cL_law 1106 = .ok (.aload_n 3, 1) := by decide +kernel
theorem dL_law_1107 : decode cL_law 1107 = .ok (.invokestatic 145, 3) := by decide +kernel
theorem dL_law_1110 : decode cL_law 1110 = .ok (.istore 5, 2) := by decide +kernel
theorem dL_law_1112 : decode cL_law 1112 = .ok (.aload_n 2, 1) := by decide +kernel
theorem dL_law_1113 : decode cL_law 1113 = .ok (.aload_n 0, 1) := by decide +kernel
theorem dL_law_1114 : decode cL_law 1114 = .ok (.iload 4, 2) := by decide +kernel
theorem dL_law_1116 : decode cL_law 1116 = .ok (.iconst 1, 1) := by decide +kernel
theorem dL_law_1117 : decode cL_law 1117 = .ok (.iadd, 1) := by decide +kernel
theorem dL_law_1118 : decode cL_law 1118 = .ok (.iaload, 1) := by decide +kernel
theorem dL_law_1119 : decode cL_law 1119 = .ok (.invokevirtual 147, 3) := by decide +kernel
theorem dL_law_1122 : decode cL_law 1122 = .ok (.istore 6, 2) := by decide +kernel
theorem dL_law_1124 : decode cL_law 1124 = .ok (.aload_n 2, 1) := by decide +kernel
theorem dL_law_1125 : decode cL_law 1125 = .ok (.invokevirtual 84, 3) := by decide +kernel
theorem dL_law_1128 : decode cL_law 1128 = .ok (.iload 5, 2) := by decide +kernel
theorem dL_law_1130 : decode cL_law 1130 = .ok (.if_icmp .eq 5, 3) := by decide +kernel
theorem dL_law_1133 : decode cL_law 1133 = .ok (.iconst 0, 1) := by decide +kernel
theorem dL_law_1134 : decode cL_law 1134 = .ok (.ireturn, 1) := by decide +kernel
theorem dL_law_1135 : decode cL_law 1135 = .ok (.iload 5, 2) := by decide +kernel
theorem dL_law_1137 : decode cL_law 1137 = .ok (.ifCond .ne 15, 3) := by decide +kernel
theorem dL_law_1140 : decode cL_law 1140 = .ok (.aload_n 3, 1) := by decide +kernel
theorem dL_law_1141 : decode cL_law 1141 = .ok (.iconst 0, 1) := by decide +kernel
theorem dL_law_1142 : decode cL_law 1142 = .ok (.laload, 1) := by decide +kernel
theorem dL_law_1143 : decode cL_law 1143 = .ok (.iload 6, 2) := by decide +kernel
theorem dL_law_1145 : decode cL_law 1145 = .ok (.i2l, 1) := by decide +kernel
theorem dL_law_1146 : decode cL_law 1146 = .ok (.lcmp, 1) := by decide +kernel
theorem dL_law_1147 : decode cL_law 1147 = .ok (.ifCond .eq 5, 3) := by decide +kernel
theorem dL_law_1150 : decode cL_law 1150 = .ok (.iconst 0, 1) := by decide +kernel
theorem dL_law_1151 : decode cL_law 1151 = .ok (.ireturn, 1) := by decide +kernel
theorem dL_law_1152 : decode cL_law 1152 = .ok (.goto 207, 3) := by decide +kernel
theorem dL_law_1155 : decode cL_law 1155 = .ok (.aload_n 1, 1) := by decide +kernel
theorem dL_law_1156 : decode cL_law 1156 = .ok (.aload_n 0, 1) := by decide +kernel
theorem dL_law_1157 : decode cL_law 1157 = .ok (.iload 4, 2) := by decide +kernel
theorem dL_law_1159 : decode cL_law 1159 = .ok (.iconst 1, 1) := by decide +kernel
theorem dL_law_1160 : decode cL_law 1160 = .ok (.iadd, 1) := by decide +kernel
theorem dL_law_1161 : decode cL_law 1161 = .ok (.iaload, 1) := by decide +kernel
theorem dL_law_1162 : decode cL_law 1162 = .ok (.aload_n 0, 1) := by decide +kernel
theorem dL_law_1163 : decode cL_law 1163 = .ok (.iload 4, 2) := by decide +kernel
theorem dL_law_1165 : decode cL_law 1165 = .ok (.iconst 2, 1) := by decide +kernel
theorem dL_law_1166 : decode cL_law 1166 = .ok (.iadd, 1) := by decide +kernel
theorem dL_law_1167 : decode cL_law 1167 = .ok (.iaload, 1) := by decide +kernel
theorem dL_law_1168 : decode cL_law 1168 = .ok (.aload_n 0, 1) := by decide +kernel
theorem dL_law_1169 : decode cL_law 1169 = .ok (.iload 4, 2) := by decide +kernel
theorem dL_law_1171 : decode cL_law 1171 = .ok (.iconst 3, 1) := by decide +kernel
theorem dL_law_1172 : decode cL_law 1172 = .ok (.iadd, 1) := by decide +kernel
theorem dL_law_1173 : decode cL_law 1173 = .ok (.iaload, 1) := by decide +kernel
theorem dL_law_1174 : decode cL_law 1174 = .ok (.aload_n 3, 1) := by decide +kernel
theorem dL_law_1175 : decode cL_law 1175 = .ok (.invokestatic 148, 3) := by decide +kernel
theorem dL_law_1178 : decode cL_law 1178 = .ok (.istore 5, 2) := by decide +kernel
theorem dL_law_1180 : decode cL_law 1180 = .ok (.aload_n 2, 1) := by decide +kernel
theorem dL_law_1181 : decode cL_law 1181 = .ok (.aload_n 0, 1) := by decide +kernel
theorem dL_law_1182 : decode cL_law 1182 = .ok (.iload 4, 2) := by decide +kernel
theorem dL_law_1184 : decode cL_law 1184 = .ok (.iconst 1, 1) := by decide +kernel
theorem dL_law_1185 : decode cL_law 1185 = .ok (.iadd, 1) := by decide +kernel
theorem dL_law_1186 : decode cL_law 1186 = .ok (.iaload, 1) := by decide +kernel
theorem dL_law_1187 : decode cL_law 1187 = .ok (.aload_n 0, 1) := by decide +kernel
theorem dL_law_1188 : decode cL_law 1188 = .ok (.iload 4, 2) := by decide +kernel
theorem dL_law_1190 : decode cL_law 1190 = .ok (.iconst 2, 1) := by decide +kernel
theorem dL_law_1191 : decode cL_law 1191 = .ok (.iadd, 1) := by decide +kernel
theorem dL_law_1192 : decode cL_law 1192 = .ok (.iaload, 1) := by decide +kernel
theorem dL_law_1193 : decode cL_law 1193 = .ok (.aload_n 0, 1) := by decide +kernel
theorem dL_law_1194 : decode cL_law 1194 = .ok (.iload 4, 2) := by decide +kernel
theorem dL_law_1196 : decode cL_law 1196 = .ok (.iconst 3, 1) := by decide +kernel
theorem dL_law_1197 : decode cL_law 1197 = .ok (.iadd, 1) := by decide +kernel
theorem dL_law_1198 : decode cL_law 1198 = .ok (.iaload, 1) := by decide +kernel
theorem dL_law_1199 : decode cL_law 1199 = .ok (.invokevirtual 150, 3) := by decide +kernel
theorem dL_law_1202 : decode cL_law 1202 = .ok (.istore 6, 2) := by decide +kernel
theorem dL_law_1204 : decode cL_law 1204 = .ok (.aload_n 2, 1) := by decide +kernel
theorem dL_law_1205 : decode cL_law 1205 = .ok (.invokevirtual 84, 3) := by decide +kernel
theorem dL_law_1208 : decode cL_law 1208 = .ok (.iload 5, 2) := by decide +kernel
theorem dL_law_1210 : decode cL_law 1210 = .ok (.if_icmp .eq 5, 3) := by decide +kernel
theorem dL_law_1213 : decode cL_law 1213 = .ok (.iconst 0, 1) := by decide +kernel
theorem dL_law_1214 : decode cL_law 1214 = .ok (.ireturn, 1) := by decide +kernel
theorem dL_law_1215 : decode cL_law 1215 = .ok (.iload 5, 2) := by decide +kernel
theorem dL_law_1217 : decode cL_law 1217 = .ok (.ifCond .ne 15, 3) := by decide +kernel
theorem dL_law_1220 : decode cL_law 1220 = .ok (.aload_n 3, 1) := by decide +kernel
theorem dL_law_1221 : decode cL_law 1221 = .ok (.iconst 0, 1) := by decide +kernel
theorem dL_law_1222 : decode cL_law 1222 = .ok (.laload, 1) := by decide +kernel
theorem dL_law_1223 : decode cL_law 1223 = .ok (.iload 6, 2) := by decide +kernel
theorem dL_law_1225 : decode cL_law 1225 = .ok (.i2l, 1) := by decide +kernel
theorem dL_law_1226 : decode cL_law 1226 = .ok (.lcmp, 1) := by decide +kernel
theorem dL_law_1227 : decode cL_law 1227 = .ok (.ifCond .eq 5, 3) := by decide +kernel
theorem dL_law_1230 : decode cL_law 1230 = .ok (.iconst 0, 1) := by decide +kernel
theorem dL_law_1231 : decode cL_law 1231 = .ok (.ireturn, 1) := by decide +kernel
theorem dL_law_1232 : decode cL_law 1232 = .ok (.goto 127, 3) := by decide +kernel
theorem dL_law_1235 : decode cL_law 1235 = .ok (.aload_n 1, 1) := by decide +kernel
theorem dL_law_1236 : decode cL_law 1236 = .ok (.aload_n 0, 1) := by decide +kernel
theorem dL_law_1237 : decode cL_law 1237 = .ok (.iload 4, 2) := by decide +kernel
theorem dL_law_1239 : decode cL_law 1239 = .ok (.iconst 1, 1) := by decide +kernel
theorem dL_law_1240 : decode cL_law 1240 = .ok (.iadd, 1) := by decide +kernel
theorem dL_law_1241 : decode cL_law 1241 = .ok (.iaload, 1) := by decide +kernel
theorem dL_law_1242 : decode cL_law 1242 = .ok (.aload_n 3, 1) := by decide +kernel
theorem dL_law_1243 : decode cL_law 1243 = .ok (.invokestatic 151, 3) := by decide +kernel
theorem dL_law_1246 : decode cL_law 1246 = .ok (.istore 5, 2) := by decide +kernel
theorem dL_law_1248 : decode cL_law 1248 = .ok (.aload_n 2, 1) := by decide +kernel
theorem dL_law_1249 : decode cL_law 1249 = .ok (.aload_n 0, 1) := by decide +kernel
theorem dL_law_1250 : decode cL_law 1250 = .ok (.iload 4, 2) := by decide +kernel
theorem dL_law_1252 : decode cL_law 1252 = .ok (.iconst 1, 1) := by decide +kernel
theorem dL_law_1253 : decode cL_law 1253 = .ok (.iadd, 1) := by decide +kernel
theorem dL_law_1254 : decode cL_law 1254 = .ok (.iaload, 1) := by decide +kernel
theorem dL_law_1255 : decode cL_law 1255 = .ok (.invokevirtual 153, 3) := by decide +kernel
theorem dL_law_1258 : decode cL_law 1258 = .ok (.istore 6, 2) := by decide +kernel
theorem dL_law_1260 : decode cL_law 1260 = .ok (.aload_n 2, 1) := by decide +kernel
theorem dL_law_1261 : decode cL_law 1261 = .ok (.invokevirtual 84, 3) := by decide +kernel
theorem dL_law_1264 : decode cL_law 1264 = .ok (.iload 5, 2) := by decide +kernel
theorem dL_law_1266 : decode cL_law 1266 = .ok (.if_icmp .eq 5, 3) := by decide +kernel
theorem dL_law_1269 : decode cL_law 1269 = .ok (.iconst 0, 1) := by decide +kernel
theorem dL_law_1270 : decode cL_law 1270 = .ok (.ireturn, 1) := by decide +kernel
theorem dL_law_1271 : decode cL_law 1271 = .ok (.iload 5, 2) := by decide +kernel
theorem dL_law_1273 : decode cL_law 1273 = .ok (.ifCond .ne 15, 3) := by decide +kernel
theorem dL_law_1276 : decode cL_law 1276 = .ok (.aload_n 3, 1) := by decide +kernel
theorem dL_law_1277 : decode cL_law 1277 = .ok (.iconst 0, 1) := by decide +kernel
theorem dL_law_1278 : decode cL_law 1278 = .ok (.laload, 1) := by decide +kernel
theorem dL_law_1279 : decode cL_law 1279 = .ok (.iload 6, 2) := by decide +kernel
theorem dL_law_1281 : decode cL_law 1281 = .ok (.i2l, 1) := by decide +kernel
theorem dL_law_1282 : decode cL_law 1282 = .ok (.lcmp, 1) := by decide +kernel
theorem dL_law_1283 : decode cL_law 1283 = .ok (.ifCond .eq 5, 3) := by decide +kernel
theorem dL_law_1286 : decode cL_law 1286 = .ok (.iconst 0, 1) := by decide +kernel
theorem dL_law_1287 : decode cL_law 1287 = .ok (.ireturn, 1) := by decide +kernel
theorem dL_law_1288 : decode cL_law 1288 = .ok (.goto 71, 3) := by decide +kernel
theorem dL_law_1291 : decode cL_law 1291 = .ok (.aload_n 1, 1) := by decide +kernel
theorem dL_law_1292 : decode cL_law 1292 = .ok (.invokevirtual 154, 3) := by decide +kernel
theorem dL_law_1295 : decode cL_law 1295 = .ok (.aload_n 2, 1) := by decide +kernel
theorem dL_law_1296 : decode cL_law 1296 = .ok (.invokevirtual 157, 3) := by decide +kernel
theorem dL_law_1299 : decode cL_law 1299 = .ok (.if_icmp .eq 60, 3) := by decide +kernel
theorem dL_law_1302 : decode cL_law 1302 = .ok (.iconst 0, 1) := by decide +kernel
theorem dL_law_1303 : decode cL_law 1303 = .ok (.ireturn, 1) := by decide +kernel
theorem dL_law_1304 : decode cL_law 1304 = .ok (.aload_n 1, 1) := by decide +kernel
theorem dL_law_1305 : decode cL_law 1305 = .ok (.invokevirtual 158, 3) := by decide +kernel
theorem dL_law_1308 : decode cL_law 1308 = .ok (.dstore 5, 2) := by decide +kernel
theorem dL_law_1310 : decode cL_law 1310 = .ok (.aload_n 2, 1) := by decide +kernel
theorem dL_law_1311 : decode cL_law 1311 = .ok (.invokevirtual 162, 3) := by decide +kernel
theorem dL_law_1314 : decode cL_law 1314 = .ok (.dstore 7, 2) := by decide +kernel
theorem dL_law_1316 : decode cL_law 1316 = .ok (.dload 5, 2) := by decide +kernel
theorem dL_law_1318 : decode cL_law 1318 = .ok (.dload 7, 2) := by decide +kernel
theorem dL_law_1320 : decode cL_law 1320 = .ok (.dcmp .l, 1) := by decide +kernel
theorem dL_law_1321 : decode cL_law 1321 = .ok (.ifCond .eq 21, 3) := by decide +kernel
theorem dL_law_1324 : decode cL_law 1324 = .ok (.dload 5, 2) := by decide +kernel
theorem dL_law_1326 : decode cL_law 1326 = .ok (.dload 5, 2) := by decide +kernel
theorem dL_law_1328 : decode cL_law 1328 = .ok (.dcmp .l, 1) := by decide +kernel
theorem dL_law_1329 : decode cL_law 1329 = .ok (.ifCond .eq 11, 3) := by decide +kernel
theorem dL_law_1332 : decode cL_law 1332 = .ok (.dload 7, 2) := by decide +kernel
theorem dL_law_1334 : decode cL_law 1334 = .ok (.dload 7, 2) := by decide +kernel
theorem dL_law_1336 : decode cL_law 1336 = .ok (.dcmp .l, 1) := by decide +kernel
theorem dL_law_1337 : decode cL_law 1337 = .ok (.ifCond .ne 5, 3) := by decide +kernel
theorem dL_law_1340 : decode cL_law 1340 = .ok (.iconst 0, 1) := by decide +kernel
theorem dL_law_1341 : decode cL_law 1341 = .ok (.ireturn, 1) := by decide +kernel
theorem dL_law_1342 : decode cL_law 1342 = .ok (.goto 17, 3) := by decide +kernel
theorem dL_law_1345 : decode cL_law 1345 = .ok (.aload_n 1, 1) := by decide +kernel
theorem dL_law_1346 : decode cL_law 1346 = .ok (.invokevirtual 163, 3) := by decide +kernel
theorem dL_law_1349 : decode cL_law 1349 = .ok (.aload_n 2, 1) := by decide +kernel
theorem dL_law_1350 : decode cL_law 1350 = .ok (.invokevirtual 167, 3) := by decide +kernel
theorem dL_law_1353 : decode cL_law 1353 = .ok (.lcmp, 1) := by decide +kernel
theorem dL_law_1354 : decode cL_law 1354 = .ok (.ifCond .eq 5, 3) := by decide +kernel
theorem dL_law_1357 : decode cL_law 1357 = .ok (.iconst 0, 1) := by decide +kernel
theorem dL_law_1358 : decode cL_law 1358 = .ok (.ireturn, 1) := by decide +kernel
theorem dL_law_1359 : decode cL_law 1359 = .ok (.iinc 4 5, 3) := by decide +kernel
theorem dL_law_1362 : decode cL_law 1362 = .ok (.goto (-1339), 3) := by decide +kernel
theorem dL_law_1365 : decode cL_law 1365 = .ok (.iconst 1, 1) := by decide +kernel
theorem dL_law_1366 : decode cL_law 1366 = .ok (.ireturn, 1) := by decide +kernel
