theorem d_T_init_0 : decode b_T_init 0 = .ok (.aload_n 0, 1) := by decide +kernel
theorem d_T_init_1 : decode b_T_init 1 = .ok (.invokespecial 5, 3) := by decide +kernel
theorem d_T_init_4 : decode b_T_init 4 = .ok (.aload_n 0, 1) := by decide +kernel
theorem d_T_init_5 : decode b_T_init 5 = .ok (.aload_n 1, 1) := by decide +kernel
theorem d_T_init_6 : decode b_T_init 6 = .ok (.putfield 11, 3) := by decide +kernel
theorem d_T_init_9 : decode b_T_init 9 = .ok (.aload_n 0, 1) := by decide +kernel
theorem d_T_init_10 : decode b_T_init 10 = .ok (.bipush 64, 2) := by decide +kernel
theorem d_T_init_12 : decode b_T_init 12 = .ok (.newarray .int, 2) := by decide +kernel
theorem d_T_init_14 : decode b_T_init 14 = .ok (.putfield 17, 3) := by decide +kernel
theorem d_T_init_17 : decode b_T_init 17 = .ok (.aload_n 0, 1) := by decide +kernel
theorem d_T_init_18 : decode b_T_init 18 = .ok (.bipush 64, 2) := by decide +kernel
theorem d_T_init_20 : decode b_T_init 20 = .ok (.newarray .int, 2) := by decide +kernel
theorem d_T_init_22 : decode b_T_init 22 = .ok (.putfield 21, 3) := by decide +kernel
theorem d_T_init_25 : decode b_T_init 25 = .ok (.aload_n 0, 1) := by decide +kernel
theorem d_T_init_26 : decode b_T_init 26 = .ok (.iconst 0, 1) := by decide +kernel
theorem d_T_init_27 : decode b_T_init 27 = .ok (.putfield 24, 3) := by decide +kernel
theorem d_T_init_30 : decode b_T_init 30 = .ok (.aload_n 0, 1) := by decide +kernel
theorem d_T_init_31 : decode b_T_init 31 = .ok (.bipush 64, 2) := by decide +kernel
theorem d_T_init_33 : decode b_T_init 33 = .ok (.newarray .int, 2) := by decide +kernel
theorem d_T_init_35 : decode b_T_init 35 = .ok (.putfield 28, 3) := by decide +kernel
theorem d_T_init_38 : decode b_T_init 38 = .ok (.aload_n 0, 1) := by decide +kernel
theorem d_T_init_39 : decode b_T_init 39 = .ok (.bipush 64, 2) := by decide +kernel
theorem d_T_init_41 : decode b_T_init 41 = .ok (.newarray .int, 2) := by decide +kernel
theorem d_T_init_43 : decode b_T_init 43 = .ok (.putfield 31, 3) := by decide +kernel
theorem d_T_init_46 : decode b_T_init 46 = .ok (.aload_n 0, 1) := by decide +kernel
theorem d_T_init_47 : decode b_T_init 47 = .ok (.bipush 11, 2) := by decide +kernel
theorem d_T_init_49 : decode b_T_init 49 = .ok (.newarray .int, 2) := by decide +kernel
theorem d_T_init_51 : decode b_T_init 51 = .ok (.putfield 34, 3) := by decide +kernel
theorem d_T_init_54 : decode b_T_init 54 = .ok (.aload_n 0, 1) := by decide +kernel
theorem d_T_init_55 : decode b_T_init 55 = .ok (.bipush 11, 2) := by decide +kernel
theorem d_T_init_57 : decode b_T_init 57 = .ok (.newarray .int, 2) := by decide +kernel
theorem d_T_init_59 : decode b_T_init 59 = .ok (.putfield 37, 3) := by decide +kernel
theorem d_T_init_62 : decode b_T_init 62 = .ok (.return_, 1) := by decide +kernel
theorem d_T_asks_0 : decode b_T_asks 0 = .ok (.aload_n 0, 1) := by decide +kernel
theorem d_T_asks_1 : decode b_T_asks 1 = .ok (.getfield 40, 3) := by decide +kernel
theorem d_T_asks_4 : decode b_T_asks 4 = .ok (.ireturn, 1) := by decide +kernel
theorem d_T_fitNodes_0 : decode b_T_fitNodes 0 = .ok (.aload_n 0, 1) := by decide +kernel
theorem d_T_fitNodes_1 : decode b_T_fitNodes 1 = .ok (.getfield 11, 3) := by decide +kernel
theorem d_T_fitNodes_4 : decode b_T_fitNodes 4 = .ok (.getfield 43, 3) := by decide +kernel
theorem d_T_fitNodes_7 : decode b_T_fitNodes 7 = .ok (.arraylength, 1) := by decide +kernel
theorem d_T_fitNodes_8 : decode b_T_fitNodes 8 = .ok (.istore_n 1, 1) := by decide +kernel
theorem d_T_fitNodes_9 : decode b_T_fitNodes 9 = .ok (.aload_n 0, 1) := by decide +kernel
theorem d_T_fitNodes_10 : decode b_T_fitNodes 10 = .ok (.getfield 17, 3) := by decide +kernel
theorem d_T_fitNodes_13 : decode b_T_fitNodes 13 = .ok (.arraylength, 1) := by decide +kernel
theorem d_T_fitNodes_14 : decode b_T_fitNodes 14 = .ok (.iload_n 1, 1) := by decide +kernel
theorem d_T_fitNodes_15 : decode b_T_fitNodes 15 = .ok (.if_icmp .ge 51, 3) := by decide +kernel
theorem d_T_fitNodes_18 : decode b_T_fitNodes 18 = .ok (.aload_n 0, 1) := by decide +kernel
theorem d_T_fitNodes_19 : decode b_T_fitNodes 19 = .ok (.aload_n 0, 1) := by decide +kernel
theorem d_T_fitNodes_20 : decode b_T_fitNodes 20 = .ok (.getfield 17, 3) := by decide +kernel
theorem d_T_fitNodes_23 : decode b_T_fitNodes 23 = .ok (.iload_n 1, 1) := by decide +kernel
theorem d_T_fitNodes_24 : decode b_T_fitNodes 24 = .ok (.invokestatic 45, 3) := by decide +kernel
theorem d_T_fitNodes_27 : decode b_T_fitNodes 27 = .ok (.putfield 17, 3) := by decide +kernel
theorem d_T_fitNodes_30 : decode b_T_fitNodes 30 = .ok (.aload_n 0, 1) := by decide +kernel
theorem d_T_fitNodes_31 : decode b_T_fitNodes 31 = .ok (.aload_n 0, 1) := by decide +kernel
theorem d_T_fitNodes_32 : decode b_T_fitNodes 32 = .ok (.getfield 21, 3) := by decide +kernel
theorem d_T_fitNodes_35 : decode b_T_fitNodes 35 = .ok (.iload_n 1, 1) := by decide +kernel
theorem d_T_fitNodes_36 : decode b_T_fitNodes 36 = .ok (.invokestatic 45, 3) := by decide +kernel
theorem d_T_fitNodes_39 : decode b_T_fitNodes 39 = .ok (.putfield 21, 3) := by decide +kernel
theorem d_T_fitNodes_42 : decode b_T_fitNodes 42 = .ok (.aload_n 0, 1) := by decide +kernel
theorem d_T_fitNodes_43 : decode b_T_fitNodes 43 = .ok (.aload_n 0, 1) := by decide +kernel
theorem d_T_fitNodes_44 : decode b_T_fitNodes 44 = .ok (.getfield 28, 3) := by decide +kernel
theorem d_T_fitNodes_47 : decode b_T_fitNodes 47 = .ok (.iload_n 1, 1) := by decide +kernel
theorem d_T_fitNodes_48 : decode b_T_fitNodes 48 = .ok (.invokestatic 45, 3) := by decide +kernel
theorem d_T_fitNodes_51 : decode b_T_fitNodes 51 = .ok (.putfield 28, 3) := by decide +kernel
theorem d_T_fitNodes_54 : decode b_T_fitNodes 54 = .ok (.aload_n 0, 1) := by decide +kernel
theorem d_T_fitNodes_55 : decode b_T_fitNodes 55 = .ok (.aload_n 0, 1) := by decide +kernel
theorem d_T_fitNodes_56 : decode b_T_fitNodes 56 = .ok (.getfield 31, 3) := by decide +kernel
theorem d_T_fitNodes_59 : decode b_T_fitNodes 59 = .ok (.iload_n 1, 1) := by decide +kernel
theorem d_T_fitNodes_60 : decode b_T_fitNodes 60 = .ok (.invokestatic 45, 3) := by decide +kernel
theorem d_T_fitNodes_63 : decode b_T_fitNodes 63 = .ok (.putfield 31, 3) := by decide +kernel
theorem d_T_fitNodes_66 : decode b_T_fitNodes 66 = .ok (.return_, 1) := by decide +kernel
theorem d_T_start_0 : decode b_T_start 0 = .ok (.aload_n 0, 1) := by decide +kernel
theorem d_T_start_1 : decode b_T_start 1 = .ok (.aload_n 0, 1) := by decide +kernel
theorem d_T_start_2 : decode b_T_start 2 = .ok (.getfield 11, 3) := by decide +kernel
theorem d_T_start_5 : decode b_T_start 5 = .ok (.getfield 49, 3) := by decide +kernel
theorem d_T_start_8 : decode b_T_start 8 = .ok (.putfield 52, 3) := by decide +kernel
theorem d_T_start_11 : decode b_T_start 11 = .ok (.aload_n 0, 1) := by decide +kernel
theorem d_T_start_12 : decode b_T_start 12 = .ok (.aload_n 0, 1) := by decide +kernel
theorem d_T_start_13 : decode b_T_start 13 = .ok (.getfield 11, 3) := by decide +kernel
theorem d_T_start_16 : decode b_T_start 16 = .ok (.getfield 55, 3) := by decide +kernel
theorem d_T_start_19 : decode b_T_start 19 = .ok (.iload_n 1, 1) := by decide +kernel
theorem d_T_start_20 : decode b_T_start 20 = .ok (.iaload, 1) := by decide +kernel
theorem d_T_start_21 : decode b_T_start 21 = .ok (.putfield 40, 3) := by decide +kernel
theorem d_T_start_24 : decode b_T_start 24 = .ok (.aload_n 0, 1) := by decide +kernel
theorem d_T_start_25 : decode b_T_start 25 = .ok (.getfield 11, 3) := by decide +kernel
theorem d_T_start_28 : decode b_T_start 28 = .ok (.getfield 57, 3) := by decide +kernel
theorem d_T_start_31 : decode b_T_start 31 = .ok (.iconst 0, 1) := by decide +kernel
theorem d_T_start_32 : decode b_T_start 32 = .ok (.aload_n 0, 1) := by decide +kernel
theorem d_T_start_33 : decode b_T_start 33 = .ok (.getfield 17, 3) := by decide +kernel
theorem d_T_start_36 : decode b_T_start 36 = .ok (.iconst 0, 1) := by decide +kernel
theorem d_T_start_37 : decode b_T_start 37 = .ok (.aload_n 0, 1) := by decide +kernel
theorem d_T_start_38 : decode b_T_start 38 = .ok (.getfield 52, 3) := by decide +kernel
theorem d_T_start_41 : decode b_T_start 41 = .ok (.invokestatic 58, 3) := by decide +kernel
theorem d_T_start_44 : decode b_T_start 44 = .ok (.return_, 1) := by decide +kernel
theorem d_T_end_0 : decode b_T_end 0 = .ok (.aload_n 0, 1) := by decide +kernel
theorem d_T_end_1 : decode b_T_end 1 = .ok (.getfield 11, 3) := by decide +kernel
theorem d_T_end_4 : decode b_T_end 4 = .ok (.aload_n 0, 1) := by decide +kernel
theorem d_T_end_5 : decode b_T_end 5 = .ok (.getfield 52, 3) := by decide +kernel
theorem d_T_end_8 : decode b_T_end 8 = .ok (.invokevirtual 64, 3) := by decide +kernel
theorem d_T_end_11 : decode b_T_end 11 = .ok (.return_, 1) := by decide +kernel
theorem d_T_startRising_0 : decode b_T_startRising 0 = .ok (.aload_n 0, 1) := by decide +kernel
theorem d_T_startRising_1 : decode b_T_startRising 1 = .ok (.invokevirtual 68, 3) := by decide +kernel
theorem d_T_startRising_4 : decode b_T_startRising 4 = .ok (.aload_n 0, 1) := by decide +kernel
theorem d_T_startRising_5 : decode b_T_startRising 5 = .ok (.iload_n 1, 1) := by decide +kernel
theorem d_T_startRising_6 : decode b_T_startRising 6 = .ok (.invokevirtual 71, 3) := by decide +kernel
theorem d_T_startRising_9 : decode b_T_startRising 9 = .ok (.aload_n 0, 1) := by decide +kernel
theorem d_T_startRising_10 : decode b_T_startRising 10 = .ok (.dup, 1) := by decide +kernel
theorem d_T_startRising_11 : decode b_T_startRising 11 = .ok (.getfield 24, 3) := by decide +kernel
theorem d_T_startRising_14 : decode b_T_startRising 14 = .ok (.iconst 1, 1) := by decide +kernel
theorem d_T_startRising_15 : decode b_T_startRising 15 = .ok (.iadd, 1) := by decide +kernel
theorem d_T_startRising_16 : decode b_T_startRising 16 = .ok (.putfield 24, 3) := by decide +kernel
theorem d_T_startRising_19 : decode b_T_startRising 19 = .ok (.aload_n 0, 1) := by decide +kernel
theorem d_T_startRising_20 : decode b_T_startRising 20 = .ok (.getfield 11, 3) := by decide +kernel
theorem d_T_startRising_23 : decode b_T_startRising 23 = .ok (.getfield 74, 3) := by decide +kernel
theorem d_T_startRising_26 : decode b_T_startRising 26 = .ok (.iload_n 1, 1) := by decide +kernel
theorem d_T_startRising_27 : decode b_T_startRising 27 = .ok (.aaload, 1) := by decide +kernel
theorem d_T_startRising_28 : decode b_T_startRising 28 = .ok (.astore_n 2, 1) := by decide +kernel
theorem d_T_startRising_29 : decode b_T_startRising 29 = .ok (.iconst 0, 1) := by decide +kernel
theorem d_T_startRising_30 : decode b_T_startRising 30 = .ok (.istore_n 3, 1) := by decide +kernel
theorem d_T_startRising_31 : decode b_T_startRising 31 = .ok (.iload_n 3, 1) := by decide +kernel
theorem d_T_startRising_32 : decode b_T_startRising 32 = .ok (.aload_n 0, 1) := by decide +kernel
theorem d_T_startRising_33 : decode b_T_startRising 33 = .ok (.getfield 40, 3) := by decide +kernel
theorem d_T_startRising_36 : decode b_T_startRising 36 = .ok (.if_icmp .ge 42, 3) := by decide +kernel
theorem d_T_startRising_39 : decode b_T_startRising 39 = .ok (.aload_n 2, 1) := by decide +kernel
theorem d_T_startRising_40 : decode b_T_startRising 40 = .ok (.iload_n 3, 1) := by decide +kernel
theorem d_T_startRising_41 : decode b_T_startRising 41 = .ok (.iaload, 1) := by decide +kernel
theorem d_T_startRising_42 : decode b_T_startRising 42 = .ok (.istore 4, 2) := by decide +kernel
theorem d_T_startRising_44 : decode b_T_startRising 44 = .ok (.aload_n 0, 1) := by decide +kernel
theorem d_T_startRising_45 : decode b_T_startRising 45 = .ok (.getfield 21, 3) := by decide +kernel
theorem d_T_startRising_48 : decode b_T_startRising 48 = .ok (.iload 4, 2) := by decide +kernel
theorem d_T_startRising_50 : decode b_T_startRising 50 = .ok (.aload_n 0, 1) := by decide +kernel
theorem d_T_startRising_51 : decode b_T_startRising 51 = .ok (.getfield 24, 3) := by decide +kernel
theorem d_T_startRising_54 : decode b_T_startRising 54 = .ok (.iastore, 1) := by decide +kernel
theorem d_T_startRising_55 : decode b_T_startRising 55 = .ok (.aload_n 0, 1) := by decide +kernel
theorem d_T_startRising_56 : decode b_T_startRising 56 = .ok (.getfield 28, 3) := by decide +kernel
theorem d_T_startRising_59 : decode b_T_startRising 59 = .ok (.iload 4, 2) := by decide +kernel
theorem d_T_startRising_61 : decode b_T_startRising 61 = .ok (.aload_n 0, 1) := by decide +kernel
theorem d_T_startRising_62 : decode b_T_startRising 62 = .ok (.getfield 11, 3) := by decide +kernel
theorem d_T_startRising_65 : decode b_T_startRising 65 = .ok (.getfield 43, 3) := by decide +kernel
theorem d_T_startRising_68 : decode b_T_startRising 68 = .ok (.iload 4, 2) := by decide +kernel
theorem d_T_startRising_70 : decode b_T_startRising 70 = .ok (.iaload, 1) := by decide +kernel
theorem d_T_startRising_71 : decode b_T_startRising 71 = .ok (.iastore, 1) := by decide +kernel
theorem d_T_startRising_72 : decode b_T_startRising 72 = .ok (.iinc 3 1, 3) := by decide +kernel
theorem d_T_startRising_75 : decode b_T_startRising 75 = .ok (.goto (-44), 3) := by decide +kernel
theorem d_T_startRising_78 : decode b_T_startRising 78 = .ok (.return_, 1) := by decide +kernel
theorem d_T_riseAbove_0 : decode b_T_riseAbove 0 = .ok (.aload_n 0, 1) := by decide +kernel
theorem d_T_riseAbove_1 : decode b_T_riseAbove 1 = .ok (.getfield 11, 3) := by decide +kernel
theorem d_T_riseAbove_4 : decode b_T_riseAbove 4 = .ok (.aload_n 0, 1) := by decide +kernel
theorem d_T_riseAbove_5 : decode b_T_riseAbove 5 = .ok (.getfield 11, 3) := by decide +kernel
theorem d_T_riseAbove_8 : decode b_T_riseAbove 8 = .ok (.getfield 49, 3) := by decide +kernel
theorem d_T_riseAbove_11 : decode b_T_riseAbove 11 = .ok (.iconst 2, 1) := by decide +kernel
theorem d_T_riseAbove_12 : decode b_T_riseAbove 12 = .ok (.aload_n 0, 1) := by decide +kernel
theorem d_T_riseAbove_13 : decode b_T_riseAbove 13 = .ok (.getfield 11, 3) := by decide +kernel
theorem d_T_riseAbove_16 : decode b_T_riseAbove 16 = .ok (.getfield 55, 3) := by decide +kernel
theorem d_T_riseAbove_19 : decode b_T_riseAbove 19 = .ok (.iload_n 1, 1) := by decide +kernel
theorem d_T_riseAbove_20 : decode b_T_riseAbove 20 = .ok (.iaload, 1) := by decide +kernel
theorem d_T_riseAbove_21 : decode b_T_riseAbove 21 = .ok (.imul, 1) := by decide +kernel
theorem d_T_riseAbove_22 : decode b_T_riseAbove 22 = .ok (.iadd, 1) := by decide +kernel
theorem d_T_riseAbove_23 : decode b_T_riseAbove 23 = .ok (.invokevirtual 78, 3) := by decide +kernel
theorem d_T_riseAbove_26 : decode b_T_riseAbove 26 = .ok (.aload_n 0, 1) := by decide +kernel
theorem d_T_riseAbove_27 : decode b_T_riseAbove 27 = .ok (.invokevirtual 68, 3) := by decide +kernel
theorem d_T_riseAbove_30 : decode b_T_riseAbove 30 = .ok (.aload_n 0, 1) := by decide +kernel
theorem d_T_riseAbove_31 : decode b_T_riseAbove 31 = .ok (.getfield 11, 3) := by decide +kernel
theorem d_T_riseAbove_34 : decode b_T_riseAbove 34 = .ok (.getfield 43, 3) := by decide +kernel
theorem d_T_riseAbove_37 : decode b_T_riseAbove 37 = .ok (.astore_n 2, 1) := by decide +kernel
theorem d_T_riseAbove_38 : decode b_T_riseAbove 38 = .ok (.aload_n 0, 1) := by decide +kernel
theorem d_T_riseAbove_39 : decode b_T_riseAbove 39 = .ok (.getfield 11, 3) := by decide +kernel
theorem d_T_riseAbove_42 : decode b_T_riseAbove 42 = .ok (.getfield 74, 3) := by decide +kernel
theorem d_T_riseAbove_45 : decode b_T_riseAbove 45 = .ok (.iload_n 1, 1) := by decide +kernel
theorem d_T_riseAbove_46 : decode b_T_riseAbove 46 = .ok (.aaload, 1) := by decide +kernel
theorem d_T_riseAbove_47 : decode b_T_riseAbove 47 = .ok (.astore_n 3, 1) := by decide +kernel
theorem d_T_riseAbove_48 : decode b_T_riseAbove 48 = .ok (.aload_n 0, 1) := by decide +kernel
theorem d_T_riseAbove_49 : decode b_T_riseAbove 49 = .ok (.getfield 21, 3) := by decide +kernel
theorem d_T_riseAbove_52 : decode b_T_riseAbove 52 = .ok (.astore 4, 2) := by decide +kernel
theorem d_T_riseAbove_54 : decode b_T_riseAbove 54 = .ok (.aload_n 0, 1) := by decide +kernel
theorem d_T_riseAbove_55 : decode b_T_riseAbove 55 = .ok (.getfield 24, 3) := by decide +kernel
theorem d_T_riseAbove_58 : decode b_T_riseAbove 58 = .ok (.istore 5, 2) := by decide +kernel
theorem d_T_riseAbove_60 : decode b_T_riseAbove 60 = .ok (.aload_n 0, 1) := by decide +kernel
theorem d_T_riseAbove_61 : decode b_T_riseAbove 61 = .ok (.getfield 11, 3) := by decide +kernel
theorem d_T_riseAbove_64 : decode b_T_riseAbove 64 = .ok (.getfield 55, 3) := by decide +kernel
theorem d_T_riseAbove_67 : decode b_T_riseAbove 67 = .ok (.iload_n 1, 1) := by decide +kernel
theorem d_T_riseAbove_68 : decode b_T_riseAbove 68 = .ok (.iaload, 1) := by decide +kernel
theorem d_T_riseAbove_69 : decode b_T_riseAbove 69 = .ok (.istore 6, 2) := by decide +kernel
theorem d_T_riseAbove_71 : decode b_T_riseAbove 71 = .ok (.aload_n 0, 1) := by decide +kernel
theorem d_T_riseAbove_72 : decode b_T_riseAbove 72 = .ok (.getfield 11, 3) := by decide +kernel
theorem d_T_riseAbove_75 : decode b_T_riseAbove 75 = .ok (.getfield 49, 3) := by decide +kernel
theorem d_T_riseAbove_78 : decode b_T_riseAbove 78 = .ok (.istore 7, 2) := by decide +kernel
theorem d_T_riseAbove_80 : decode b_T_riseAbove 80 = .ok (.iconst 0, 1) := by decide +kernel
theorem d_T_riseAbove_81 : decode b_T_riseAbove 81 = .ok (.istore 8, 2) := by decide +kernel
theorem d_T_riseAbove_83 : decode b_T_riseAbove 83 = .ok (.iconst 0, 1) := by decide +kernel
theorem d_T_riseAbove_84 : decode b_T_riseAbove 84 = .ok (.istore 9, 2) := by decide +kernel
theorem d_T_riseAbove_86 : decode b_T_riseAbove 86 = .ok (.iload 9, 2) := by decide +kernel
theorem d_T_riseAbove_88 : decode b_T_riseAbove 88 = .ok (.iload 6, 2) := by decide +kernel
theorem d_T_riseAbove_90 : decode b_T_riseAbove 90 = .ok (.if_icmp .ge 272, 3) := by decide +kernel
theorem d_T_riseAbove_93 : decode b_T_riseAbove 93 = .ok (.aload_n 3, 1) := by decide +kernel
theorem d_T_riseAbove_94 : decode b_T_riseAbove 94 = .ok (.iload 9, 2) := by decide +kernel
theorem d_T_riseAbove_96 : decode b_T_riseAbove 96 = .ok (.iaload, 1) := by decide +kernel
theorem d_T_riseAbove_97 : decode b_T_riseAbove 97 = .ok (.istore 10, 2) := by decide +kernel
theorem d_T_riseAbove_99 : decode b_T_riseAbove 99 = .ok (.aload_n 2, 1) := by decide +kernel
theorem d_T_riseAbove_100 : decode b_T_riseAbove 100 = .ok (.iload 10, 2) := by decide +kernel
theorem d_T_riseAbove_102 : decode b_T_riseAbove 102 = .ok (.iaload, 1) := by decide +kernel
theorem d_T_riseAbove_103 : decode b_T_riseAbove 103 = .ok (.bipush 14, 2) := by decide +kernel
theorem d_T_riseAbove_105 : decode b_T_riseAbove 105 = .ok (.iushr, 1) := by decide +kernel
theorem d_T_riseAbove_106 : decode b_T_riseAbove 106 = .ok (.sipush 16383, 3) := by decide +kernel
theorem d_T_riseAbove_109 : decode b_T_riseAbove 109 = .ok (.iand, 1) := by decide +kernel
theorem d_T_riseAbove_110 : decode b_T_riseAbove 110 = .ok (.istore 11, 2) := by decide +kernel
theorem d_T_riseAbove_112 : decode b_T_riseAbove 112 = .ok (.aload_n 2, 1) := by decide +kernel
theorem d_T_riseAbove_113 : decode b_T_riseAbove 113 = .ok (.iload 10, 2) := by decide +kernel
theorem d_T_riseAbove_115 : decode b_T_riseAbove 115 = .ok (.iaload, 1) := by decide +kernel
theorem d_T_riseAbove_116 : decode b_T_riseAbove 116 = .ok (.sipush 16383, 3) := by decide +kernel
theorem d_T_riseAbove_119 : decode b_T_riseAbove 119 = .ok (.iand, 1) := by decide +kernel
theorem d_T_riseAbove_120 : decode b_T_riseAbove 120 = .ok (.istore 12, 2) := by decide +kernel
theorem d_T_riseAbove_122 : decode b_T_riseAbove 122 = .ok (.aload 4, 2) := by decide +kernel
theorem d_T_riseAbove_124 : decode b_T_riseAbove 124 = .ok (.iload 11, 2) := by decide +kernel
theorem d_T_riseAbove_126 : decode b_T_riseAbove 126 = .ok (.iaload, 1) := by decide +kernel
theorem d_T_riseAbove_127 : decode b_T_riseAbove 127 = .ok (.iload 5, 2) := by decide +kernel
theorem d_T_riseAbove_129 : decode b_T_riseAbove 129 = .ok (.if_icmp .ne 7, 3) := by decide +kernel
theorem d_T_riseAbove_132 : decode b_T_riseAbove 132 = .ok (.iconst 1, 1) := by decide +kernel
theorem d_T_riseAbove_133 : decode b_T_riseAbove 133 = .ok (.goto 4, 3) := by decide +kernel
theorem d_T_riseAbove_136 : decode b_T_riseAbove 136 = .ok (.iconst 0, 1) := by decide +kernel
theorem d_T_riseAbove_137 : decode b_T_riseAbove 137 = .ok (.istore 13, 2) := by decide +kernel
theorem d_T_riseAbove_139 : decode b_T_riseAbove 139 = .ok (.aload 4, 2) := by decide +kernel
theorem d_T_riseAbove_141 : decode b_T_riseAbove 141 = .ok (.iload 12, 2) := by decide +kernel
theorem d_T_riseAbove_143 : decode b_T_riseAbove 143 = .ok (.iaload, 1) := by decide +kernel
theorem d_T_riseAbove_144 : decode b_T_riseAbove 144 = .ok (.iload 5, 2) := by decide +kernel
theorem d_T_riseAbove_146 : decode b_T_riseAbove 146 = .ok (.if_icmp .ne 7, 3) := by decide +kernel
theorem d_T_riseAbove_149 : decode b_T_riseAbove 149 = .ok (.iconst 1, 1) := by decide +kernel
theorem d_T_riseAbove_150 : decode b_T_riseAbove 150 = .ok (.goto 4, 3) := by decide +kernel
theorem d_T_riseAbove_153 : decode b_T_riseAbove 153 = .ok (.iconst 0, 1) := by decide +kernel
theorem d_T_riseAbove_154 : decode b_T_riseAbove 154 = .ok (.istore 14, 2) := by decide +kernel
theorem d_T_riseAbove_156 : decode b_T_riseAbove 156 = .ok (.iload 13, 2) := by decide +kernel
theorem d_T_riseAbove_158 : decode b_T_riseAbove 158 = .ok (.ifCond .ne 8, 3) := by decide +kernel
theorem d_T_riseAbove_161 : decode b_T_riseAbove 161 = .ok (.iload 14, 2) := by decide +kernel
theorem d_T_riseAbove_163 : decode b_T_riseAbove 163 = .ok (.ifCond .eq 193, 3) := by decide +kernel
theorem d_T_riseAbove_166 : decode b_T_riseAbove 166 = .ok (.iload 13, 2) := by decide +kernel
theorem d_T_riseAbove_168 : decode b_T_riseAbove 168 = .ok (.ifCond .eq 27, 3) := by decide +kernel
theorem d_T_riseAbove_171 : decode b_T_riseAbove 171 = .ok (.aload_n 0, 1) := by decide +kernel
theorem d_T_riseAbove_172 : decode b_T_riseAbove 172 = .ok (.getfield 17, 3) := by decide +kernel
theorem d_T_riseAbove_175 : decode b_T_riseAbove 175 = .ok (.iload 11, 2) := by decide +kernel
theorem d_T_riseAbove_177 : decode b_T_riseAbove 177 = .ok (.dup2, 1) := by decide +kernel
theorem d_T_riseAbove_178 : decode b_T_riseAbove 178 = .ok (.iaload, 1) := by decide +kernel
theorem d_T_riseAbove_179 : decode b_T_riseAbove 179 = .ok (.iconst 1, 1) := by decide +kernel
theorem d_T_riseAbove_180 : decode b_T_riseAbove 180 = .ok (.isub, 1) := by decide +kernel
theorem d_T_riseAbove_181 : decode b_T_riseAbove 181 = .ok (.iastore, 1) := by decide +kernel
theorem d_T_riseAbove_182 : decode b_T_riseAbove 182 = .ok (.aload_n 0, 1) := by decide +kernel
theorem d_T_riseAbove_183 : decode b_T_riseAbove 183 = .ok (.getfield 17, 3) := by decide +kernel
theorem d_T_riseAbove_186 : decode b_T_riseAbove 186 = .ok (.iload 11, 2) := by decide +kernel
theorem d_T_riseAbove_188 : decode b_T_riseAbove 188 = .ok (.iaload, 1) := by decide +kernel
theorem d_T_riseAbove_189 : decode b_T_riseAbove 189 = .ok (.ifCond .ne 6, 3) := by decide +kernel
theorem d_T_riseAbove_192 : decode b_T_riseAbove 192 = .ok (.iinc 8 1, 3) := by decide +kernel
theorem d_T_riseAbove_195 : decode b_T_riseAbove 195 = .ok (.iload 14, 2) := by decide +kernel
theorem d_T_riseAbove_197 : decode b_T_riseAbove 197 = .ok (.ifCond .eq 27, 3) := by decide +kernel
theorem d_T_riseAbove_200 : decode b_T_riseAbove 200 = .ok (.aload_n 0, 1) := by decide +kernel
theorem d_T_riseAbove_201 : decode b_T_riseAbove 201 = .ok (.getfield 17, 3) := by decide +kernel
theorem d_T_riseAbove_204 : decode b_T_riseAbove 204 = .ok (.iload 12, 2) := by decide +kernel
theorem d_T_riseAbove_206 : decode b_T_riseAbove 206 = .ok (.dup2, 1) := by decide +kernel
theorem d_T_riseAbove_207 : decode b_T_riseAbove 207 = .ok (.iaload, 1) := by decide +kernel
theorem d_T_riseAbove_208 : decode b_T_riseAbove 208 = .ok (.iconst 1, 1) := by decide +kernel
theorem d_T_riseAbove_209 : decode b_T_riseAbove 209 = .ok (.isub, 1) := by decide +kernel
theorem d_T_riseAbove_210 : decode b_T_riseAbove 210 = .ok (.iastore, 1) := by decide +kernel
theorem d_T_riseAbove_211 : decode b_T_riseAbove 211 = .ok (.aload_n 0, 1) := by decide +kernel
theorem d_T_riseAbove_212 : decode b_T_riseAbove 212 = .ok (.getfield 17, 3) := by decide +kernel
theorem d_T_riseAbove_215 : decode b_T_riseAbove 215 = .ok (.iload 12, 2) := by decide +kernel
theorem d_T_riseAbove_217 : decode b_T_riseAbove 217 = .ok (.iaload, 1) := by decide +kernel
theorem d_T_riseAbove_218 : decode b_T_riseAbove 218 = .ok (.ifCond .ne 6, 3) := by decide +kernel
theorem d_T_riseAbove_221 : decode b_T_riseAbove 221 = .ok (.iinc 8 1, 3) := by decide +kernel
theorem d_T_riseAbove_224 : decode b_T_riseAbove 224 = .ok (.iload 13, 2) := by decide +kernel
theorem d_T_riseAbove_226 : decode b_T_riseAbove 226 = .ok (.ifCond .eq 13, 3) := by decide +kernel
theorem d_T_riseAbove_229 : decode b_T_riseAbove 229 = .ok (.aload_n 0, 1) := by decide +kernel
theorem d_T_riseAbove_230 : decode b_T_riseAbove 230 = .ok (.getfield 28, 3) := by decide +kernel
theorem d_T_riseAbove_233 : decode b_T_riseAbove 233 = .ok (.iload 11, 2) := by decide +kernel
theorem d_T_riseAbove_235 : decode b_T_riseAbove 235 = .ok (.iaload, 1) := by decide +kernel
theorem d_T_riseAbove_236 : decode b_T_riseAbove 236 = .ok (.goto 11, 3) := by decide +kernel
theorem d_T_riseAbove_239 : decode b_T_riseAbove 239 = .ok (.iload 11, 2) := by decide +kernel
theorem d_T_riseAbove_241 : decode b_T_riseAbove 241 = .ok (.bipush 14, 2) := by decide +kernel
theorem d_T_riseAbove_243 : decode b_T_riseAbove 243 = .ok (.ishl, 1) := by decide +kernel
theorem d_T_riseAbove_244 : decode b_T_riseAbove 244 = .ok (.iload 11, 2) := by decide +kernel
theorem d_T_riseAbove_246 : decode b_T_riseAbove 246 = .ok (.ior, 1) := by decide +kernel
theorem d_T_riseAbove_247 : decode b_T_riseAbove 247 = .ok (.istore 15, 2) := by decide +kernel
theorem d_T_riseAbove_249 : decode b_T_riseAbove 249 = .ok (.iload 14, 2) := by decide +kernel
theorem d_T_riseAbove_251 : decode b_T_riseAbove 251 = .ok (.ifCond .eq 13, 3) := by decide +kernel
theorem d_T_riseAbove_254 : decode b_T_riseAbove 254 = .ok (.aload_n 0, 1) := by decide +kernel
theorem d_T_riseAbove_255 : decode b_T_riseAbove 255 = .ok (.getfield 28, 3) := by decide +kernel
theorem d_T_riseAbove_258 : decode b_T_riseAbove 258 = .ok (.iload 12, 2) := by decide +kernel
theorem d_T_riseAbove_260 : decode b_T_riseAbove 260 = .ok (.iaload, 1) := by decide +kernel
theorem d_T_riseAbove_261 : decode b_T_riseAbove 261 = .ok (.goto 11, 3) := by decide +kernel
theorem d_T_riseAbove_264 : decode b_T_riseAbove 264 = .ok (.iload 12, 2) := by decide +kernel
theorem d_T_riseAbove_266 : decode b_T_riseAbove 266 = .ok (.bipush 14, 2) := by decide +kernel
theorem d_T_riseAbove_268 : decode b_T_riseAbove 268 = .ok (.ishl, 1) := by decide +kernel
theorem d_T_riseAbove_269 : decode b_T_riseAbove 269 = .ok (.iload 12, 2) := by decide +kernel
theorem d_T_riseAbove_271 : decode b_T_riseAbove 271 = .ok (.ior, 1) := by decide +kernel
theorem d_T_riseAbove_272 : decode b_T_riseAbove 272 = .ok (.istore 16, 2) := by decide +kernel
theorem d_T_riseAbove_274 : decode b_T_riseAbove 274 = .ok (.aload_n 0, 1) := by decide +kernel
theorem d_T_riseAbove_275 : decode b_T_riseAbove 275 = .ok (.getfield 11, 3) := by decide +kernel
theorem d_T_riseAbove_278 : decode b_T_riseAbove 278 = .ok (.iload_n 1, 1) := by decide +kernel
theorem d_T_riseAbove_279 : decode b_T_riseAbove 279 = .ok (.iload 15, 2) := by decide +kernel
theorem d_T_riseAbove_281 : decode b_T_riseAbove 281 = .ok (.bipush 14, 2) := by decide +kernel
theorem d_T_riseAbove_283 : decode b_T_riseAbove 283 = .ok (.iushr, 1) := by decide +kernel
theorem d_T_riseAbove_284 : decode b_T_riseAbove 284 = .ok (.sipush 16383, 3) := by decide +kernel
theorem d_T_riseAbove_287 : decode b_T_riseAbove 287 = .ok (.iand, 1) := by decide +kernel
theorem d_T_riseAbove_288 : decode b_T_riseAbove 288 = .ok (.iload 16, 2) := by decide +kernel
theorem d_T_riseAbove_290 : decode b_T_riseAbove 290 = .ok (.bipush 14, 2) := by decide +kernel
theorem d_T_riseAbove_292 : decode b_T_riseAbove 292 = .ok (.iushr, 1) := by decide +kernel
theorem d_T_riseAbove_293 : decode b_T_riseAbove 293 = .ok (.sipush 16383, 3) := by decide +kernel
theorem d_T_riseAbove_296 : decode b_T_riseAbove 296 = .ok (.iand, 1) := by decide +kernel
theorem d_T_riseAbove_297 : decode b_T_riseAbove 297 = .ok (.invokevirtual 81, 3) := by decide +kernel
theorem d_T_riseAbove_300 : decode b_T_riseAbove 300 = .ok (.istore 17, 2) := by decide +kernel
theorem d_T_riseAbove_302 : decode b_T_riseAbove 302 = .ok (.aload_n 0, 1) := by decide +kernel
theorem d_T_riseAbove_303 : decode b_T_riseAbove 303 = .ok (.getfield 11, 3) := by decide +kernel
theorem d_T_riseAbove_306 : decode b_T_riseAbove 306 = .ok (.iload_n 1, 1) := by decide +kernel
theorem d_T_riseAbove_307 : decode b_T_riseAbove 307 = .ok (.iload 15, 2) := by decide +kernel
theorem d_T_riseAbove_309 : decode b_T_riseAbove 309 = .ok (.sipush 16383, 3) := by decide +kernel
theorem d_T_riseAbove_312 : decode b_T_riseAbove 312 = .ok (.iand, 1) := by decide +kernel
theorem d_T_riseAbove_313 : decode b_T_riseAbove 313 = .ok (.iload 16, 2) := by decide +kernel
theorem d_T_riseAbove_315 : decode b_T_riseAbove 315 = .ok (.sipush 16383, 3) := by decide +kernel
theorem d_T_riseAbove_318 : decode b_T_riseAbove 318 = .ok (.iand, 1) := by decide +kernel
theorem d_T_riseAbove_319 : decode b_T_riseAbove 319 = .ok (.invokevirtual 81, 3) := by decide +kernel
theorem d_T_riseAbove_322 : decode b_T_riseAbove 322 = .ok (.istore 18, 2) := by decide +kernel
theorem d_T_riseAbove_324 : decode b_T_riseAbove 324 = .ok (.aload 4, 2) := by decide +kernel
theorem d_T_riseAbove_326 : decode b_T_riseAbove 326 = .ok (.iload 10, 2) := by decide +kernel
theorem d_T_riseAbove_328 : decode b_T_riseAbove 328 = .ok (.iload 5, 2) := by decide +kernel
theorem d_T_riseAbove_330 : decode b_T_riseAbove 330 = .ok (.iastore, 1) := by decide +kernel
theorem d_T_riseAbove_331 : decode b_T_riseAbove 331 = .ok (.aload_n 0, 1) := by decide +kernel
theorem d_T_riseAbove_332 : decode b_T_riseAbove 332 = .ok (.getfield 28, 3) := by decide +kernel
theorem d_T_riseAbove_335 : decode b_T_riseAbove 335 = .ok (.iload 10, 2) := by decide +kernel
theorem d_T_riseAbove_337 : decode b_T_riseAbove 337 = .ok (.iload 17, 2) := by decide +kernel
theorem d_T_riseAbove_339 : decode b_T_riseAbove 339 = .ok (.bipush 14, 2) := by decide +kernel
theorem d_T_riseAbove_341 : decode b_T_riseAbove 341 = .ok (.ishl, 1) := by decide +kernel
theorem d_T_riseAbove_342 : decode b_T_riseAbove 342 = .ok (.iload 18, 2) := by decide +kernel
theorem d_T_riseAbove_344 : decode b_T_riseAbove 344 = .ok (.ior, 1) := by decide +kernel
theorem d_T_riseAbove_345 : decode b_T_riseAbove 345 = .ok (.iastore, 1) := by decide +kernel
theorem d_T_riseAbove_346 : decode b_T_riseAbove 346 = .ok (.aload_n 0, 1) := by decide +kernel
theorem d_T_riseAbove_347 : decode b_T_riseAbove 347 = .ok (.dup, 1) := by decide +kernel
theorem d_T_riseAbove_348 : decode b_T_riseAbove 348 = .ok (.getfield 40, 3) := by decide +kernel
theorem d_T_riseAbove_351 : decode b_T_riseAbove 351 = .ok (.iconst 1, 1) := by decide +kernel
theorem d_T_riseAbove_352 : decode b_T_riseAbove 352 = .ok (.iadd, 1) := by decide +kernel
theorem d_T_riseAbove_353 : decode b_T_riseAbove 353 = .ok (.putfield 40, 3) := by decide +kernel
theorem d_T_riseAbove_356 : decode b_T_riseAbove 356 = .ok (.iinc 9 1, 3) := by decide +kernel
theorem d_T_riseAbove_359 : decode b_T_riseAbove 359 = .ok (.goto (-273), 3) := by decide +kernel
theorem d_T_riseAbove_362 : decode b_T_riseAbove 362 = .ok (.aload_n 0, 1) := by decide +kernel
theorem d_T_riseAbove_363 : decode b_T_riseAbove 363 = .ok (.dup, 1) := by decide +kernel
theorem d_T_riseAbove_364 : decode b_T_riseAbove 364 = .ok (.getfield 40, 3) := by decide +kernel
theorem d_T_riseAbove_367 : decode b_T_riseAbove 367 = .ok (.iload 8, 2) := by decide +kernel
theorem d_T_riseAbove_369 : decode b_T_riseAbove 369 = .ok (.isub, 1) := by decide +kernel
theorem d_T_riseAbove_370 : decode b_T_riseAbove 370 = .ok (.putfield 40, 3) := by decide +kernel
theorem d_T_riseAbove_373 : decode b_T_riseAbove 373 = .ok (.aload_n 0, 1) := by decide +kernel
theorem d_T_riseAbove_374 : decode b_T_riseAbove 374 = .ok (.getfield 11, 3) := by decide +kernel
theorem d_T_riseAbove_377 : decode b_T_riseAbove 377 = .ok (.getfield 49, 3) := by decide +kernel
theorem d_T_riseAbove_380 : decode b_T_riseAbove 380 = .ok (.iload 7, 2) := by decide +kernel
theorem d_T_riseAbove_382 : decode b_T_riseAbove 382 = .ok (.isub, 1) := by decide +kernel
theorem d_T_riseAbove_383 : decode b_T_riseAbove 383 = .ok (.iload 8, 2) := by decide +kernel
theorem d_T_riseAbove_385 : decode b_T_riseAbove 385 = .ok (.isub, 1) := by decide +kernel
theorem d_T_riseAbove_386 : decode b_T_riseAbove 386 = .ok (.ireturn, 1) := by decide +kernel
theorem d_T_startSinking_0 : decode b_T_startSinking 0 = .ok (.aload_n 0, 1) := by decide +kernel
theorem d_T_startSinking_1 : decode b_T_startSinking 1 = .ok (.invokevirtual 68, 3) := by decide +kernel
theorem d_T_startSinking_4 : decode b_T_startSinking 4 = .ok (.aload_n 0, 1) := by decide +kernel
theorem d_T_startSinking_5 : decode b_T_startSinking 5 = .ok (.iload_n 1, 1) := by decide +kernel
theorem d_T_startSinking_6 : decode b_T_startSinking 6 = .ok (.invokevirtual 71, 3) := by decide +kernel
theorem d_T_startSinking_9 : decode b_T_startSinking 9 = .ok (.iload_n 3, 1) := by decide +kernel
theorem d_T_startSinking_10 : decode b_T_startSinking 10 = .ok (.istore 4, 2) := by decide +kernel
theorem d_T_startSinking_12 : decode b_T_startSinking 12 = .ok (.iload 4, 2) := by decide +kernel
theorem d_T_startSinking_14 : decode b_T_startSinking 14 = .ok (.bipush 9, 2) := by decide +kernel
theorem d_T_startSinking_16 : decode b_T_startSinking 16 = .ok (.if_icmp .ge 28, 3) := by decide +kernel
theorem d_T_startSinking_19 : decode b_T_startSinking 19 = .ok (.aload_n 0, 1) := by decide +kernel
theorem d_T_startSinking_20 : decode b_T_startSinking 20 = .ok (.getfield 37, 3) := by decide +kernel
theorem d_T_startSinking_23 : decode b_T_startSinking 23 = .ok (.aload_n 2, 1) := by decide +kernel
theorem d_T_startSinking_24 : decode b_T_startSinking 24 = .ok (.iload 4, 2) := by decide +kernel
theorem d_T_startSinking_26 : decode b_T_startSinking 26 = .ok (.iaload, 1) := by decide +kernel
theorem d_T_startSinking_27 : decode b_T_startSinking 27 = .ok (.iload 4, 2) := by decide +kernel
theorem d_T_startSinking_29 : decode b_T_startSinking 29 = .ok (.iastore, 1) := by decide +kernel
theorem d_T_startSinking_30 : decode b_T_startSinking 30 = .ok (.aload_n 0, 1) := by decide +kernel
theorem d_T_startSinking_31 : decode b_T_startSinking 31 = .ok (.getfield 34, 3) := by decide +kernel
theorem d_T_startSinking_34 : decode b_T_startSinking 34 = .ok (.iload 4, 2) := by decide +kernel
theorem d_T_startSinking_36 : decode b_T_startSinking 36 = .ok (.iconst 0, 1) := by decide +kernel
theorem d_T_startSinking_37 : decode b_T_startSinking 37 = .ok (.iastore, 1) := by decide +kernel
theorem d_T_startSinking_38 : decode b_T_startSinking 38 = .ok (.iinc 4 1, 3) := by decide +kernel
theorem d_T_startSinking_41 : decode b_T_startSinking 41 = .ok (.goto (-29), 3) := by decide +kernel
theorem d_T_startSinking_44 : decode b_T_startSinking 44 = .ok (.aload_n 0, 1) := by decide +kernel
theorem d_T_startSinking_45 : decode b_T_startSinking 45 = .ok (.getfield 37, 3) := by decide +kernel
theorem d_T_startSinking_48 : decode b_T_startSinking 48 = .ok (.bipush 10, 2) := by decide +kernel
theorem d_T_startSinking_50 : decode b_T_startSinking 50 = .ok (.bipush 10, 2) := by decide +kernel
theorem d_T_startSinking_52 : decode b_T_startSinking 52 = .ok (.iastore, 1) := by decide +kernel
theorem d_T_startSinking_53 : decode b_T_startSinking 53 = .ok (.aload_n 0, 1) := by decide +kernel
theorem d_T_startSinking_54 : decode b_T_startSinking 54 = .ok (.getfield 11, 3) := by decide +kernel
theorem d_T_startSinking_57 : decode b_T_startSinking 57 = .ok (.getfield 74, 3) := by decide +kernel
theorem d_T_startSinking_60 : decode b_T_startSinking 60 = .ok (.iload_n 1, 1) := by decide +kernel
theorem d_T_startSinking_61 : decode b_T_startSinking 61 = .ok (.aaload, 1) := by decide +kernel
theorem d_T_startSinking_62 : decode b_T_startSinking 62 = .ok (.astore 4, 2) := by decide +kernel
theorem d_T_startSinking_64 : decode b_T_startSinking 64 = .ok (.iconst 0, 1) := by decide +kernel
theorem d_T_startSinking_65 : decode b_T_startSinking 65 = .ok (.istore 5, 2) := by decide +kernel
theorem d_T_startSinking_67 : decode b_T_startSinking 67 = .ok (.iload 5, 2) := by decide +kernel
theorem d_T_startSinking_69 : decode b_T_startSinking 69 = .ok (.aload_n 0, 1) := by decide +kernel
theorem d_T_startSinking_70 : decode b_T_startSinking 70 = .ok (.getfield 40, 3) := by decide +kernel
theorem d_T_startSinking_73 : decode b_T_startSinking 73 = .ok (.if_icmp .ge 48, 3) := by decide +kernel
theorem d_T_startSinking_76 : decode b_T_startSinking 76 = .ok (.aload_n 0, 1) := by decide +kernel
theorem d_T_startSinking_77 : decode b_T_startSinking 77 = .ok (.getfield 11, 3) := by decide +kernel
theorem d_T_startSinking_80 : decode b_T_startSinking 80 = .ok (.getfield 43, 3) := by decide +kernel
theorem d_T_startSinking_83 : decode b_T_startSinking 83 = .ok (.aload 4, 2) := by decide +kernel
theorem d_T_startSinking_85 : decode b_T_startSinking 85 = .ok (.iload 5, 2) := by decide +kernel
theorem d_T_startSinking_87 : decode b_T_startSinking 87 = .ok (.iaload, 1) := by decide +kernel
theorem d_T_startSinking_88 : decode b_T_startSinking 88 = .ok (.iaload, 1) := by decide +kernel
theorem d_T_startSinking_89 : decode b_T_startSinking 89 = .ok (.istore 6, 2) := by decide +kernel
theorem d_T_startSinking_91 : decode b_T_startSinking 91 = .ok (.aload_n 0, 1) := by decide +kernel
theorem d_T_startSinking_92 : decode b_T_startSinking 92 = .ok (.aload 4, 2) := by decide +kernel
theorem d_T_startSinking_94 : decode b_T_startSinking 94 = .ok (.iload 5, 2) := by decide +kernel
theorem d_T_startSinking_96 : decode b_T_startSinking 96 = .ok (.iaload, 1) := by decide +kernel
theorem d_T_startSinking_97 : decode b_T_startSinking 97 = .ok (.iload 6, 2) := by decide +kernel
theorem d_T_startSinking_99 : decode b_T_startSinking 99 = .ok (.bipush 14, 2) := by decide +kernel
theorem d_T_startSinking_101 : decode b_T_startSinking 101 = .ok (.iushr, 1) := by decide +kernel
theorem d_T_startSinking_102 : decode b_T_startSinking 102 = .ok (.sipush 16383, 3) := by decide +kernel
theorem d_T_startSinking_105 : decode b_T_startSinking 105 = .ok (.iand, 1) := by decide +kernel
theorem d_T_startSinking_106 : decode b_T_startSinking 106 = .ok (.iload 6, 2) := by decide +kernel
theorem d_T_startSinking_108 : decode b_T_startSinking 108 = .ok (.sipush 16383, 3) := by decide +kernel
theorem d_T_startSinking_111 : decode b_T_startSinking 111 = .ok (.iand, 1) := by decide +kernel
theorem d_T_startSinking_112 : decode b_T_startSinking 112 = .ok (.invokevirtual 85, 3) := by decide +kernel
theorem d_T_startSinking_115 : decode b_T_startSinking 115 = .ok (.iinc 5 1, 3) := by decide +kernel
theorem d_T_startSinking_118 : decode b_T_startSinking 118 = .ok (.goto (-51), 3) := by decide +kernel
theorem d_T_startSinking_121 : decode b_T_startSinking 121 = .ok (.return_, 1) := by decide +kernel
theorem d_T_link_0 : decode b_T_link 0 = .ok (.aload_n 0, 1) := by decide +kernel
theorem d_T_link_1 : decode b_T_link 1 = .ok (.getfield 37, 3) := by decide +kernel
theorem d_T_link_4 : decode b_T_link 4 = .ok (.aload_n 0, 1) := by decide +kernel
theorem d_T_link_5 : decode b_T_link 5 = .ok (.getfield 11, 3) := by decide +kernel
theorem d_T_link_8 : decode b_T_link 8 = .ok (.getfield 43, 3) := by decide +kernel
theorem d_T_link_11 : decode b_T_link 11 = .ok (.iload_n 2, 1) := by decide +kernel
theorem d_T_link_12 : decode b_T_link 12 = .ok (.iaload, 1) := by decide +kernel
theorem d_T_link_13 : decode b_T_link 13 = .ok (.bipush 28, 2) := by decide +kernel
theorem d_T_link_15 : decode b_T_link 15 = .ok (.iushr, 1) := by decide +kernel
theorem d_T_link_16 : decode b_T_link 16 = .ok (.iaload, 1) := by decide +kernel
theorem d_T_link_17 : decode b_T_link 17 = .ok (.istore 4, 2) := by decide +kernel
theorem d_T_link_19 : decode b_T_link 19 = .ok (.aload_n 0, 1) := by decide +kernel
theorem d_T_link_20 : decode b_T_link 20 = .ok (.getfield 37, 3) := by decide +kernel
theorem d_T_link_23 : decode b_T_link 23 = .ok (.aload_n 0, 1) := by decide +kernel
theorem d_T_link_24 : decode b_T_link 24 = .ok (.getfield 11, 3) := by decide +kernel
theorem d_T_link_27 : decode b_T_link 27 = .ok (.getfield 43, 3) := by decide +kernel
theorem d_T_link_30 : decode b_T_link 30 = .ok (.iload_n 3, 1) := by decide +kernel
theorem d_T_link_31 : decode b_T_link 31 = .ok (.iaload, 1) := by decide +kernel
theorem d_T_link_32 : decode b_T_link 32 = .ok (.bipush 28, 2) := by decide +kernel
theorem d_T_link_34 : decode b_T_link 34 = .ok (.iushr, 1) := by decide +kernel
theorem d_T_link_35 : decode b_T_link 35 = .ok (.iaload, 1) := by decide +kernel
theorem d_T_link_36 : decode b_T_link 36 = .ok (.istore 5, 2) := by decide +kernel
theorem d_T_link_38 : decode b_T_link 38 = .ok (.iload 4, 2) := by decide +kernel
theorem d_T_link_40 : decode b_T_link 40 = .ok (.iload 5, 2) := by decide +kernel
theorem d_T_link_42 : decode b_T_link 42 = .ok (.if_icmp .ge 8, 3) := by decide +kernel
theorem d_T_link_45 : decode b_T_link 45 = .ok (.iload 4, 2) := by decide +kernel
theorem d_T_link_47 : decode b_T_link 47 = .ok (.goto 5, 3) := by decide +kernel
theorem d_T_link_50 : decode b_T_link 50 = .ok (.iload 5, 2) := by decide +kernel
theorem d_T_link_52 : decode b_T_link 52 = .ok (.istore 6, 2) := by decide +kernel
theorem d_T_link_54 : decode b_T_link 54 = .ok (.aload_n 0, 1) := by decide +kernel
theorem d_T_link_55 : decode b_T_link 55 = .ok (.getfield 31, 3) := by decide +kernel
theorem d_T_link_58 : decode b_T_link 58 = .ok (.iload_n 1, 1) := by decide +kernel
theorem d_T_link_59 : decode b_T_link 59 = .ok (.aload_n 0, 1) := by decide +kernel
theorem d_T_link_60 : decode b_T_link 60 = .ok (.getfield 34, 3) := by decide +kernel
theorem d_T_link_63 : decode b_T_link 63 = .ok (.iload 6, 2) := by decide +kernel
theorem d_T_link_65 : decode b_T_link 65 = .ok (.iaload, 1) := by decide +kernel
theorem d_T_link_66 : decode b_T_link 66 = .ok (.iastore, 1) := by decide +kernel
theorem d_T_link_67 : decode b_T_link 67 = .ok (.aload_n 0, 1) := by decide +kernel
theorem d_T_link_68 : decode b_T_link 68 = .ok (.getfield 34, 3) := by decide +kernel
theorem d_T_link_71 : decode b_T_link 71 = .ok (.iload 6, 2) := by decide +kernel
theorem d_T_link_73 : decode b_T_link 73 = .ok (.iload_n 1, 1) := by decide +kernel
theorem d_T_link_74 : decode b_T_link 74 = .ok (.iastore, 1) := by decide +kernel
theorem d_T_link_75 : decode b_T_link 75 = .ok (.return_, 1) := by decide +kernel
theorem d_T_sinkBelow_0 : decode b_T_sinkBelow 0 = .ok (.aload_n 0, 1) := by decide +kernel
theorem d_T_sinkBelow_1 : decode b_T_sinkBelow 1 = .ok (.getfield 11, 3) := by decide +kernel
theorem d_T_sinkBelow_4 : decode b_T_sinkBelow 4 = .ok (.aload_n 0, 1) := by decide +kernel
theorem d_T_sinkBelow_5 : decode b_T_sinkBelow 5 = .ok (.getfield 11, 3) := by decide +kernel
theorem d_T_sinkBelow_8 : decode b_T_sinkBelow 8 = .ok (.getfield 49, 3) := by decide +kernel
theorem d_T_sinkBelow_11 : decode b_T_sinkBelow 11 = .ok (.iconst 2, 1) := by decide +kernel
theorem d_T_sinkBelow_12 : decode b_T_sinkBelow 12 = .ok (.aload_n 0, 1) := by decide +kernel
theorem d_T_sinkBelow_13 : decode b_T_sinkBelow 13 = .ok (.getfield 40, 3) := by decide +kernel
theorem d_T_sinkBelow_16 : decode b_T_sinkBelow 16 = .ok (.imul, 1) := by decide +kernel
theorem d_T_sinkBelow_17 : decode b_T_sinkBelow 17 = .ok (.iadd, 1) := by decide +kernel
theorem d_T_sinkBelow_18 : decode b_T_sinkBelow 18 = .ok (.invokevirtual 78, 3) := by decide +kernel
theorem d_T_sinkBelow_21 : decode b_T_sinkBelow 21 = .ok (.aload_n 0, 1) := by decide +kernel
theorem d_T_sinkBelow_22 : decode b_T_sinkBelow 22 = .ok (.invokevirtual 68, 3) := by decide +kernel
theorem d_T_sinkBelow_25 : decode b_T_sinkBelow 25 = .ok (.aload_n 0, 1) := by decide +kernel
theorem d_T_sinkBelow_26 : decode b_T_sinkBelow 26 = .ok (.getfield 11, 3) := by decide +kernel
theorem d_T_sinkBelow_29 : decode b_T_sinkBelow 29 = .ok (.getfield 43, 3) := by decide +kernel
theorem d_T_sinkBelow_32 : decode b_T_sinkBelow 32 = .ok (.astore_n 3, 1) := by decide +kernel
theorem d_T_sinkBelow_33 : decode b_T_sinkBelow 33 = .ok (.aload_n 0, 1) := by decide +kernel
theorem d_T_sinkBelow_34 : decode b_T_sinkBelow 34 = .ok (.getfield 17, 3) := by decide +kernel
theorem d_T_sinkBelow_37 : decode b_T_sinkBelow 37 = .ok (.astore 4, 2) := by decide +kernel
theorem d_T_sinkBelow_39 : decode b_T_sinkBelow 39 = .ok (.aload_n 0, 1) := by decide +kernel
theorem d_T_sinkBelow_40 : decode b_T_sinkBelow 40 = .ok (.getfield 11, 3) := by decide +kernel
theorem d_T_sinkBelow_43 : decode b_T_sinkBelow 43 = .ok (.getfield 49, 3) := by decide +kernel
theorem d_T_sinkBelow_46 : decode b_T_sinkBelow 46 = .ok (.istore 5, 2) := by decide +kernel
theorem d_T_sinkBelow_48 : decode b_T_sinkBelow 48 = .ok (.iconst 0, 1) := by decide +kernel
theorem d_T_sinkBelow_49 : decode b_T_sinkBelow 49 = .ok (.istore 6, 2) := by decide +kernel
theorem d_T_sinkBelow_51 : decode b_T_sinkBelow 51 = .ok (.iconst 0, 1) := by decide +kernel
theorem d_T_sinkBelow_52 : decode b_T_sinkBelow 52 = .ok (.istore 7, 2) := by decide +kernel
theorem d_T_sinkBelow_54 : decode b_T_sinkBelow 54 = .ok (.aload_n 0, 1) := by decide +kernel
theorem d_T_sinkBelow_55 : decode b_T_sinkBelow 55 = .ok (.getfield 34, 3) := by decide +kernel
theorem d_T_sinkBelow_58 : decode b_T_sinkBelow 58 = .ok (.aload_n 0, 1) := by decide +kernel
theorem d_T_sinkBelow_59 : decode b_T_sinkBelow 59 = .ok (.getfield 37, 3) := by decide +kernel
theorem d_T_sinkBelow_62 : decode b_T_sinkBelow 62 = .ok (.iload_n 2, 1) := by decide +kernel
theorem d_T_sinkBelow_63 : decode b_T_sinkBelow 63 = .ok (.iaload, 1) := by decide +kernel
theorem d_T_sinkBelow_64 : decode b_T_sinkBelow 64 = .ok (.iaload, 1) := by decide +kernel
theorem d_T_sinkBelow_65 : decode b_T_sinkBelow 65 = .ok (.istore 8, 2) := by decide +kernel
theorem d_T_sinkBelow_67 : decode b_T_sinkBelow 67 = .ok (.iload 8, 2) := by decide +kernel
theorem d_T_sinkBelow_69 : decode b_T_sinkBelow 69 = .ok (.ifCond .eq 281, 3) := by decide +kernel
theorem d_T_sinkBelow_72 : decode b_T_sinkBelow 72 = .ok (.iload 7, 2) := by decide +kernel
theorem d_T_sinkBelow_74 : decode b_T_sinkBelow 74 = .ok (.sipush 16384, 3) := by decide +kernel
theorem d_T_sinkBelow_77 : decode b_T_sinkBelow 77 = .ok (.if_icmp .ge 273, 3) := by decide +kernel
theorem d_T_sinkBelow_80 : decode b_T_sinkBelow 80 = .ok (.aload_n 3, 1) := by decide +kernel
theorem d_T_sinkBelow_81 : decode b_T_sinkBelow 81 = .ok (.iload 8, 2) := by decide +kernel
theorem d_T_sinkBelow_83 : decode b_T_sinkBelow 83 = .ok (.iaload, 1) := by decide +kernel
theorem d_T_sinkBelow_84 : decode b_T_sinkBelow 84 = .ok (.bipush 14, 2) := by decide +kernel
theorem d_T_sinkBelow_86 : decode b_T_sinkBelow 86 = .ok (.iushr, 1) := by decide +kernel
theorem d_T_sinkBelow_87 : decode b_T_sinkBelow 87 = .ok (.sipush 16383, 3) := by decide +kernel
theorem d_T_sinkBelow_90 : decode b_T_sinkBelow 90 = .ok (.iand, 1) := by decide +kernel
theorem d_T_sinkBelow_91 : decode b_T_sinkBelow 91 = .ok (.istore 9, 2) := by decide +kernel
theorem d_T_sinkBelow_93 : decode b_T_sinkBelow 93 = .ok (.aload_n 3, 1) := by decide +kernel
theorem d_T_sinkBelow_94 : decode b_T_sinkBelow 94 = .ok (.iload 8, 2) := by decide +kernel
theorem d_T_sinkBelow_96 : decode b_T_sinkBelow 96 = .ok (.iaload, 1) := by decide +kernel
theorem d_T_sinkBelow_97 : decode b_T_sinkBelow 97 = .ok (.sipush 16383, 3) := by decide +kernel
theorem d_T_sinkBelow_100 : decode b_T_sinkBelow 100 = .ok (.iand, 1) := by decide +kernel
theorem d_T_sinkBelow_101 : decode b_T_sinkBelow 101 = .ok (.istore 10, 2) := by decide +kernel
theorem d_T_sinkBelow_103 : decode b_T_sinkBelow 103 = .ok (.aload_n 3, 1) := by decide +kernel
theorem d_T_sinkBelow_104 : decode b_T_sinkBelow 104 = .ok (.iload 9, 2) := by decide +kernel
theorem d_T_sinkBelow_106 : decode b_T_sinkBelow 106 = .ok (.iaload, 1) := by decide +kernel
theorem d_T_sinkBelow_107 : decode b_T_sinkBelow 107 = .ok (.istore 11, 2) := by decide +kernel
theorem d_T_sinkBelow_109 : decode b_T_sinkBelow 109 = .ok (.aload_n 3, 1) := by decide +kernel
theorem d_T_sinkBelow_110 : decode b_T_sinkBelow 110 = .ok (.iload 10, 2) := by decide +kernel
theorem d_T_sinkBelow_112 : decode b_T_sinkBelow 112 = .ok (.iaload, 1) := by decide +kernel
theorem d_T_sinkBelow_113 : decode b_T_sinkBelow 113 = .ok (.istore 12, 2) := by decide +kernel
theorem d_T_sinkBelow_115 : decode b_T_sinkBelow 115 = .ok (.iload 11, 2) := by decide +kernel
theorem d_T_sinkBelow_117 : decode b_T_sinkBelow 117 = .ok (.bipush 28, 2) := by decide +kernel
theorem d_T_sinkBelow_119 : decode b_T_sinkBelow 119 = .ok (.iushr, 1) := by decide +kernel
theorem d_T_sinkBelow_120 : decode b_T_sinkBelow 120 = .ok (.iload_n 2, 1) := by decide +kernel
theorem d_T_sinkBelow_121 : decode b_T_sinkBelow 121 = .ok (.if_icmp .eq 35, 3) := by decide +kernel
theorem d_T_sinkBelow_124 : decode b_T_sinkBelow 124 = .ok (.aload_n 0, 1) := by decide +kernel
theorem d_T_sinkBelow_125 : decode b_T_sinkBelow 125 = .ok (.iload_n 1, 1) := by decide +kernel
theorem d_T_sinkBelow_126 : decode b_T_sinkBelow 126 = .ok (.iload 9, 2) := by decide +kernel
theorem d_T_sinkBelow_128 : decode b_T_sinkBelow 128 = .ok (.iload 12, 2) := by decide +kernel
theorem d_T_sinkBelow_130 : decode b_T_sinkBelow 130 = .ok (.bipush 14, 2) := by decide +kernel
theorem d_T_sinkBelow_132 : decode b_T_sinkBelow 132 = .ok (.iushr, 1) := by decide +kernel
theorem d_T_sinkBelow_133 : decode b_T_sinkBelow 133 = .ok (.sipush 16383, 3) := by decide +kernel
theorem d_T_sinkBelow_136 : decode b_T_sinkBelow 136 = .ok (.iand, 1) := by decide +kernel
theorem d_T_sinkBelow_137 : decode b_T_sinkBelow 137 = .ok (.invokevirtual 89, 3) := by decide +kernel
theorem d_T_sinkBelow_140 : decode b_T_sinkBelow 140 = .ok (.aload_n 0, 1) := by decide +kernel
theorem d_T_sinkBelow_141 : decode b_T_sinkBelow 141 = .ok (.iload_n 1, 1) := by decide +kernel
theorem d_T_sinkBelow_142 : decode b_T_sinkBelow 142 = .ok (.iload 9, 2) := by decide +kernel
theorem d_T_sinkBelow_144 : decode b_T_sinkBelow 144 = .ok (.iload 12, 2) := by decide +kernel
theorem d_T_sinkBelow_146 : decode b_T_sinkBelow 146 = .ok (.sipush 16383, 3) := by decide +kernel
theorem d_T_sinkBelow_149 : decode b_T_sinkBelow 149 = .ok (.iand, 1) := by decide +kernel
theorem d_T_sinkBelow_150 : decode b_T_sinkBelow 150 = .ok (.invokevirtual 89, 3) := by decide +kernel
theorem d_T_sinkBelow_153 : decode b_T_sinkBelow 153 = .ok (.goto 84, 3) := by decide +kernel
theorem d_T_sinkBelow_156 : decode b_T_sinkBelow 156 = .ok (.iload 12, 2) := by decide +kernel
theorem d_T_sinkBelow_158 : decode b_T_sinkBelow 158 = .ok (.bipush 28, 2) := by decide +kernel
theorem d_T_sinkBelow_160 : decode b_T_sinkBelow 160 = .ok (.iushr, 1) := by decide +kernel
theorem d_T_sinkBelow_161 : decode b_T_sinkBelow 161 = .ok (.iload_n 2, 1) := by decide +kernel
theorem d_T_sinkBelow_162 : decode b_T_sinkBelow 162 = .ok (.if_icmp .eq 35, 3) := by decide +kernel
theorem d_T_sinkBelow_165 : decode b_T_sinkBelow 165 = .ok (.aload_n 0, 1) := by decide +kernel
theorem d_T_sinkBelow_166 : decode b_T_sinkBelow 166 = .ok (.iload_n 1, 1) := by decide +kernel
theorem d_T_sinkBelow_167 : decode b_T_sinkBelow 167 = .ok (.iload 11, 2) := by decide +kernel
theorem d_T_sinkBelow_169 : decode b_T_sinkBelow 169 = .ok (.bipush 14, 2) := by decide +kernel
theorem d_T_sinkBelow_171 : decode b_T_sinkBelow 171 = .ok (.iushr, 1) := by decide +kernel
theorem d_T_sinkBelow_172 : decode b_T_sinkBelow 172 = .ok (.sipush 16383, 3) := by decide +kernel
theorem d_T_sinkBelow_175 : decode b_T_sinkBelow 175 = .ok (.iand, 1) := by decide +kernel
theorem d_T_sinkBelow_176 : decode b_T_sinkBelow 176 = .ok (.iload 10, 2) := by decide +kernel
theorem d_T_sinkBelow_178 : decode b_T_sinkBelow 178 = .ok (.invokevirtual 89, 3) := by decide +kernel
theorem d_T_sinkBelow_181 : decode b_T_sinkBelow 181 = .ok (.aload_n 0, 1) := by decide +kernel
theorem d_T_sinkBelow_182 : decode b_T_sinkBelow 182 = .ok (.iload_n 1, 1) := by decide +kernel
theorem d_T_sinkBelow_183 : decode b_T_sinkBelow 183 = .ok (.iload 11, 2) := by decide +kernel
theorem d_T_sinkBelow_185 : decode b_T_sinkBelow 185 = .ok (.sipush 16383, 3) := by decide +kernel
theorem d_T_sinkBelow_188 : decode b_T_sinkBelow 188 = .ok (.iand, 1) := by decide +kernel
theorem d_T_sinkBelow_189 : decode b_T_sinkBelow 189 = .ok (.iload 10, 2) := by decide +kernel
theorem d_T_sinkBelow_191 : decode b_T_sinkBelow 191 = .ok (.invokevirtual 89, 3) := by decide +kernel
theorem d_T_sinkBelow_194 : decode b_T_sinkBelow 194 = .ok (.goto 43, 3) := by decide +kernel
theorem d_T_sinkBelow_197 : decode b_T_sinkBelow 197 = .ok (.aload_n 0, 1) := by decide +kernel
theorem d_T_sinkBelow_198 : decode b_T_sinkBelow 198 = .ok (.iload_n 1, 1) := by decide +kernel
theorem d_T_sinkBelow_199 : decode b_T_sinkBelow 199 = .ok (.iload 11, 2) := by decide +kernel
theorem d_T_sinkBelow_201 : decode b_T_sinkBelow 201 = .ok (.bipush 14, 2) := by decide +kernel
theorem d_T_sinkBelow_203 : decode b_T_sinkBelow 203 = .ok (.iushr, 1) := by decide +kernel
theorem d_T_sinkBelow_204 : decode b_T_sinkBelow 204 = .ok (.sipush 16383, 3) := by decide +kernel
theorem d_T_sinkBelow_207 : decode b_T_sinkBelow 207 = .ok (.iand, 1) := by decide +kernel
theorem d_T_sinkBelow_208 : decode b_T_sinkBelow 208 = .ok (.iload 12, 2) := by decide +kernel
theorem d_T_sinkBelow_210 : decode b_T_sinkBelow 210 = .ok (.bipush 14, 2) := by decide +kernel
theorem d_T_sinkBelow_212 : decode b_T_sinkBelow 212 = .ok (.iushr, 1) := by decide +kernel
theorem d_T_sinkBelow_213 : decode b_T_sinkBelow 213 = .ok (.sipush 16383, 3) := by decide +kernel
theorem d_T_sinkBelow_216 : decode b_T_sinkBelow 216 = .ok (.iand, 1) := by decide +kernel
theorem d_T_sinkBelow_217 : decode b_T_sinkBelow 217 = .ok (.invokevirtual 89, 3) := by decide +kernel
theorem d_T_sinkBelow_220 : decode b_T_sinkBelow 220 = .ok (.aload_n 0, 1) := by decide +kernel
theorem d_T_sinkBelow_221 : decode b_T_sinkBelow 221 = .ok (.iload_n 1, 1) := by decide +kernel
theorem d_T_sinkBelow_222 : decode b_T_sinkBelow 222 = .ok (.iload 11, 2) := by decide +kernel
theorem d_T_sinkBelow_224 : decode b_T_sinkBelow 224 = .ok (.sipush 16383, 3) := by decide +kernel
theorem d_T_sinkBelow_227 : decode b_T_sinkBelow 227 = .ok (.iand, 1) := by decide +kernel
theorem d_T_sinkBelow_228 : decode b_T_sinkBelow 228 = .ok (.iload 12, 2) := by decide +kernel
theorem d_T_sinkBelow_230 : decode b_T_sinkBelow 230 = .ok (.sipush 16383, 3) := by decide +kernel
theorem d_T_sinkBelow_233 : decode b_T_sinkBelow 233 = .ok (.iand, 1) := by decide +kernel
theorem d_T_sinkBelow_234 : decode b_T_sinkBelow 234 = .ok (.invokevirtual 89, 3) := by decide +kernel
theorem d_T_sinkBelow_237 : decode b_T_sinkBelow 237 = .ok (.aload 4, 2) := by decide +kernel
theorem d_T_sinkBelow_239 : decode b_T_sinkBelow 239 = .ok (.iload 9, 2) := by decide +kernel
theorem d_T_sinkBelow_241 : decode b_T_sinkBelow 241 = .ok (.dup2, 1) := by decide +kernel
theorem d_T_sinkBelow_242 : decode b_T_sinkBelow 242 = .ok (.iaload, 1) := by decide +kernel
theorem d_T_sinkBelow_243 : decode b_T_sinkBelow 243 = .ok (.iconst 1, 1) := by decide +kernel
theorem d_T_sinkBelow_244 : decode b_T_sinkBelow 244 = .ok (.isub, 1) := by decide +kernel
theorem d_T_sinkBelow_245 : decode b_T_sinkBelow 245 = .ok (.iastore, 1) := by decide +kernel
theorem d_T_sinkBelow_246 : decode b_T_sinkBelow 246 = .ok (.aload 4, 2) := by decide +kernel
theorem d_T_sinkBelow_248 : decode b_T_sinkBelow 248 = .ok (.iload 9, 2) := by decide +kernel
theorem d_T_sinkBelow_250 : decode b_T_sinkBelow 250 = .ok (.iaload, 1) := by decide +kernel
theorem d_T_sinkBelow_251 : decode b_T_sinkBelow 251 = .ok (.ifCond .ne 35, 3) := by decide +kernel
theorem d_T_sinkBelow_254 : decode b_T_sinkBelow 254 = .ok (.aload 4, 2) := by decide +kernel
theorem d_T_sinkBelow_256 : decode b_T_sinkBelow 256 = .ok (.iload 11, 2) := by decide +kernel
theorem d_T_sinkBelow_258 : decode b_T_sinkBelow 258 = .ok (.bipush 14, 2) := by decide +kernel
theorem d_T_sinkBelow_260 : decode b_T_sinkBelow 260 = .ok (.iushr, 1) := by decide +kernel
theorem d_T_sinkBelow_261 : decode b_T_sinkBelow 261 = .ok (.sipush 16383, 3) := by decide +kernel
theorem d_T_sinkBelow_264 : decode b_T_sinkBelow 264 = .ok (.iand, 1) := by decide +kernel
theorem d_T_sinkBelow_265 : decode b_T_sinkBelow 265 = .ok (.dup2, 1) := by decide +kernel
theorem d_T_sinkBelow_266 : decode b_T_sinkBelow 266 = .ok (.iaload, 1) := by decide +kernel
theorem d_T_sinkBelow_267 : decode b_T_sinkBelow 267 = .ok (.iconst 1, 1) := by decide +kernel
theorem d_T_sinkBelow_268 : decode b_T_sinkBelow 268 = .ok (.isub, 1) := by decide +kernel
theorem d_T_sinkBelow_269 : decode b_T_sinkBelow 269 = .ok (.iastore, 1) := by decide +kernel
theorem d_T_sinkBelow_270 : decode b_T_sinkBelow 270 = .ok (.aload 4, 2) := by decide +kernel
theorem d_T_sinkBelow_272 : decode b_T_sinkBelow 272 = .ok (.iload 11, 2) := by decide +kernel
theorem d_T_sinkBelow_274 : decode b_T_sinkBelow 274 = .ok (.sipush 16383, 3) := by decide +kernel
theorem d_T_sinkBelow_277 : decode b_T_sinkBelow 277 = .ok (.iand, 1) := by decide +kernel
theorem d_T_sinkBelow_278 : decode b_T_sinkBelow 278 = .ok (.dup2, 1) := by decide +kernel
theorem d_T_sinkBelow_279 : decode b_T_sinkBelow 279 = .ok (.iaload, 1) := by decide +kernel
theorem d_T_sinkBelow_280 : decode b_T_sinkBelow 280 = .ok (.iconst 1, 1) := by decide +kernel
theorem d_T_sinkBelow_281 : decode b_T_sinkBelow 281 = .ok (.isub, 1) := by decide +kernel
theorem d_T_sinkBelow_282 : decode b_T_sinkBelow 282 = .ok (.iastore, 1) := by decide +kernel
theorem d_T_sinkBelow_283 : decode b_T_sinkBelow 283 = .ok (.iinc 6 1, 3) := by decide +kernel
theorem d_T_sinkBelow_286 : decode b_T_sinkBelow 286 = .ok (.aload 4, 2) := by decide +kernel
theorem d_T_sinkBelow_288 : decode b_T_sinkBelow 288 = .ok (.iload 10, 2) := by decide +kernel
theorem d_T_sinkBelow_290 : decode b_T_sinkBelow 290 = .ok (.dup2, 1) := by decide +kernel
theorem d_T_sinkBelow_291 : decode b_T_sinkBelow 291 = .ok (.iaload, 1) := by decide +kernel
theorem d_T_sinkBelow_292 : decode b_T_sinkBelow 292 = .ok (.iconst 1, 1) := by decide +kernel
theorem d_T_sinkBelow_293 : decode b_T_sinkBelow 293 = .ok (.isub, 1) := by decide +kernel
theorem d_T_sinkBelow_294 : decode b_T_sinkBelow 294 = .ok (.iastore, 1) := by decide +kernel
theorem d_T_sinkBelow_295 : decode b_T_sinkBelow 295 = .ok (.aload 4, 2) := by decide +kernel
theorem d_T_sinkBelow_297 : decode b_T_sinkBelow 297 = .ok (.iload 10, 2) := by decide +kernel
theorem d_T_sinkBelow_299 : decode b_T_sinkBelow 299 = .ok (.iaload, 1) := by decide +kernel
theorem d_T_sinkBelow_300 : decode b_T_sinkBelow 300 = .ok (.ifCond .ne 35, 3) := by decide +kernel
theorem d_T_sinkBelow_303 : decode b_T_sinkBelow 303 = .ok (.aload 4, 2) := by decide +kernel
theorem d_T_sinkBelow_305 : decode b_T_sinkBelow 305 = .ok (.iload 12, 2) := by decide +kernel
theorem d_T_sinkBelow_307 : decode b_T_sinkBelow 307 = .ok (.bipush 14, 2) := by decide +kernel
theorem d_T_sinkBelow_309 : decode b_T_sinkBelow 309 = .ok (.iushr, 1) := by decide +kernel
theorem d_T_sinkBelow_310 : decode b_T_sinkBelow 310 = .ok (.sipush 16383, 3) := by decide +kernel
theorem d_T_sinkBelow_313 : decode b_T_sinkBelow 313 = .ok (.iand, 1) := by decide +kernel
theorem d_T_sinkBelow_314 : decode b_T_sinkBelow 314 = .ok (.dup2, 1) := by decide +kernel
theorem d_T_sinkBelow_315 : decode b_T_sinkBelow 315 = .ok (.iaload, 1) := by decide +kernel
theorem d_T_sinkBelow_316 : decode b_T_sinkBelow 316 = .ok (.iconst 1, 1) := by decide +kernel
theorem d_T_sinkBelow_317 : decode b_T_sinkBelow 317 = .ok (.isub, 1) := by decide +kernel
theorem d_T_sinkBelow_318 : decode b_T_sinkBelow 318 = .ok (.iastore, 1) := by decide +kernel
theorem d_T_sinkBelow_319 : decode b_T_sinkBelow 319 = .ok (.aload 4, 2) := by decide +kernel
theorem d_T_sinkBelow_321 : decode b_T_sinkBelow 321 = .ok (.iload 12, 2) := by decide +kernel
theorem d_T_sinkBelow_323 : decode b_T_sinkBelow 323 = .ok (.sipush 16383, 3) := by decide +kernel
theorem d_T_sinkBelow_326 : decode b_T_sinkBelow 326 = .ok (.iand, 1) := by decide +kernel
theorem d_T_sinkBelow_327 : decode b_T_sinkBelow 327 = .ok (.dup2, 1) := by decide +kernel
theorem d_T_sinkBelow_328 : decode b_T_sinkBelow 328 = .ok (.iaload, 1) := by decide +kernel
theorem d_T_sinkBelow_329 : decode b_T_sinkBelow 329 = .ok (.iconst 1, 1) := by decide +kernel
theorem d_T_sinkBelow_330 : decode b_T_sinkBelow 330 = .ok (.isub, 1) := by decide +kernel
theorem d_T_sinkBelow_331 : decode b_T_sinkBelow 331 = .ok (.iastore, 1) := by decide +kernel
theorem d_T_sinkBelow_332 : decode b_T_sinkBelow 332 = .ok (.iinc 6 1, 3) := by decide +kernel
theorem d_T_sinkBelow_335 : decode b_T_sinkBelow 335 = .ok (.iinc 7 1, 3) := by decide +kernel
theorem d_T_sinkBelow_338 : decode b_T_sinkBelow 338 = .ok (.aload_n 0, 1) := by decide +kernel
theorem d_T_sinkBelow_339 : decode b_T_sinkBelow 339 = .ok (.getfield 31, 3) := by decide +kernel
theorem d_T_sinkBelow_342 : decode b_T_sinkBelow 342 = .ok (.iload 8, 2) := by decide +kernel
theorem d_T_sinkBelow_344 : decode b_T_sinkBelow 344 = .ok (.iaload, 1) := by decide +kernel
theorem d_T_sinkBelow_345 : decode b_T_sinkBelow 345 = .ok (.istore 8, 2) := by decide +kernel
theorem d_T_sinkBelow_347 : decode b_T_sinkBelow 347 = .ok (.goto (-280), 3) := by decide +kernel
theorem d_T_sinkBelow_350 : decode b_T_sinkBelow 350 = .ok (.aload_n 0, 1) := by decide +kernel
theorem d_T_sinkBelow_351 : decode b_T_sinkBelow 351 = .ok (.dup, 1) := by decide +kernel
theorem d_T_sinkBelow_352 : decode b_T_sinkBelow 352 = .ok (.getfield 40, 3) := by decide +kernel
theorem d_T_sinkBelow_355 : decode b_T_sinkBelow 355 = .ok (.aload_n 0, 1) := by decide +kernel
theorem d_T_sinkBelow_356 : decode b_T_sinkBelow 356 = .ok (.getfield 11, 3) := by decide +kernel
theorem d_T_sinkBelow_359 : decode b_T_sinkBelow 359 = .ok (.getfield 49, 3) := by decide +kernel
theorem d_T_sinkBelow_362 : decode b_T_sinkBelow 362 = .ok (.iload 5, 2) := by decide +kernel
theorem d_T_sinkBelow_364 : decode b_T_sinkBelow 364 = .ok (.isub, 1) := by decide +kernel
theorem d_T_sinkBelow_365 : decode b_T_sinkBelow 365 = .ok (.iload 7, 2) := by decide +kernel
theorem d_T_sinkBelow_367 : decode b_T_sinkBelow 367 = .ok (.isub, 1) := by decide +kernel
theorem d_T_sinkBelow_368 : decode b_T_sinkBelow 368 = .ok (.iadd, 1) := by decide +kernel
theorem d_T_sinkBelow_369 : decode b_T_sinkBelow 369 = .ok (.putfield 40, 3) := by decide +kernel
theorem d_T_sinkBelow_372 : decode b_T_sinkBelow 372 = .ok (.aload_n 0, 1) := by decide +kernel
theorem d_T_sinkBelow_373 : decode b_T_sinkBelow 373 = .ok (.getfield 11, 3) := by decide +kernel
theorem d_T_sinkBelow_376 : decode b_T_sinkBelow 376 = .ok (.getfield 49, 3) := by decide +kernel
theorem d_T_sinkBelow_379 : decode b_T_sinkBelow 379 = .ok (.iload 5, 2) := by decide +kernel
theorem d_T_sinkBelow_381 : decode b_T_sinkBelow 381 = .ok (.isub, 1) := by decide +kernel
theorem d_T_sinkBelow_382 : decode b_T_sinkBelow 382 = .ok (.iload 6, 2) := by decide +kernel
theorem d_T_sinkBelow_384 : decode b_T_sinkBelow 384 = .ok (.isub, 1) := by decide +kernel
theorem d_T_sinkBelow_385 : decode b_T_sinkBelow 385 = .ok (.ireturn, 1) := by decide +kernel
theorem d_T_leadOn_0 : decode b_T_leadOn 0 = .ok (.aload_n 0, 1) := by decide +kernel
theorem d_T_leadOn_1 : decode b_T_leadOn 1 = .ok (.getfield 11, 3) := by decide +kernel
theorem d_T_leadOn_4 : decode b_T_leadOn 4 = .ok (.getfield 49, 3) := by decide +kernel
theorem d_T_leadOn_7 : decode b_T_leadOn 7 = .ok (.istore 4, 2) := by decide +kernel
theorem d_T_leadOn_9 : decode b_T_leadOn 9 = .ok (.aload_n 0, 1) := by decide +kernel
theorem d_T_leadOn_10 : decode b_T_leadOn 10 = .ok (.getfield 11, 3) := by decide +kernel
theorem d_T_leadOn_13 : decode b_T_leadOn 13 = .ok (.iload_n 1, 1) := by decide +kernel
theorem d_T_leadOn_14 : decode b_T_leadOn 14 = .ok (.iload_n 2, 1) := by decide +kernel
theorem d_T_leadOn_15 : decode b_T_leadOn 15 = .ok (.iload_n 3, 1) := by decide +kernel
theorem d_T_leadOn_16 : decode b_T_leadOn 16 = .ok (.invokevirtual 81, 3) := by decide +kernel
theorem d_T_leadOn_19 : decode b_T_leadOn 19 = .ok (.istore 5, 2) := by decide +kernel
theorem d_T_leadOn_21 : decode b_T_leadOn 21 = .ok (.iload 5, 2) := by decide +kernel
theorem d_T_leadOn_23 : decode b_T_leadOn 23 = .ok (.iload 4, 2) := by decide +kernel
theorem d_T_leadOn_25 : decode b_T_leadOn 25 = .ok (.if_icmp .ne 34, 3) := by decide +kernel
theorem d_T_leadOn_28 : decode b_T_leadOn 28 = .ok (.aload_n 0, 1) := by decide +kernel
theorem d_T_leadOn_29 : decode b_T_leadOn 29 = .ok (.getfield 17, 3) := by decide +kernel
theorem d_T_leadOn_32 : decode b_T_leadOn 32 = .ok (.iload_n 2, 1) := by decide +kernel
theorem d_T_leadOn_33 : decode b_T_leadOn 33 = .ok (.dup2, 1) := by decide +kernel
theorem d_T_leadOn_34 : decode b_T_leadOn 34 = .ok (.iaload, 1) := by decide +kernel
theorem d_T_leadOn_35 : decode b_T_leadOn 35 = .ok (.iconst 1, 1) := by decide +kernel
theorem d_T_leadOn_36 : decode b_T_leadOn 36 = .ok (.iadd, 1) := by decide +kernel
theorem d_T_leadOn_37 : decode b_T_leadOn 37 = .ok (.iastore, 1) := by decide +kernel
theorem d_T_leadOn_38 : decode b_T_leadOn 38 = .ok (.aload_n 0, 1) := by decide +kernel
theorem d_T_leadOn_39 : decode b_T_leadOn 39 = .ok (.getfield 17, 3) := by decide +kernel
theorem d_T_leadOn_42 : decode b_T_leadOn 42 = .ok (.iload_n 3, 1) := by decide +kernel
theorem d_T_leadOn_43 : decode b_T_leadOn 43 = .ok (.dup2, 1) := by decide +kernel
theorem d_T_leadOn_44 : decode b_T_leadOn 44 = .ok (.iaload, 1) := by decide +kernel
theorem d_T_leadOn_45 : decode b_T_leadOn 45 = .ok (.iconst 1, 1) := by decide +kernel
theorem d_T_leadOn_46 : decode b_T_leadOn 46 = .ok (.iadd, 1) := by decide +kernel
theorem d_T_leadOn_47 : decode b_T_leadOn 47 = .ok (.iastore, 1) := by decide +kernel
theorem d_T_leadOn_48 : decode b_T_leadOn 48 = .ok (.aload_n 0, 1) := by decide +kernel
theorem d_T_leadOn_49 : decode b_T_leadOn 49 = .ok (.iload 5, 2) := by decide +kernel
theorem d_T_leadOn_51 : decode b_T_leadOn 51 = .ok (.iload_n 2, 1) := by decide +kernel
theorem d_T_leadOn_52 : decode b_T_leadOn 52 = .ok (.iload_n 3, 1) := by decide +kernel
theorem d_T_leadOn_53 : decode b_T_leadOn 53 = .ok (.invokevirtual 85, 3) := by decide +kernel
theorem d_T_leadOn_56 : decode b_T_leadOn 56 = .ok (.goto 18, 3) := by decide +kernel
theorem d_T_leadOn_59 : decode b_T_leadOn 59 = .ok (.iload_n 2, 1) := by decide +kernel
theorem d_T_leadOn_60 : decode b_T_leadOn 60 = .ok (.iload_n 3, 1) := by decide +kernel
theorem d_T_leadOn_61 : decode b_T_leadOn 61 = .ok (.if_icmp .ne 13, 3) := by decide +kernel
theorem d_T_leadOn_64 : decode b_T_leadOn 64 = .ok (.aload_n 0, 1) := by decide +kernel
theorem d_T_leadOn_65 : decode b_T_leadOn 65 = .ok (.getfield 17, 3) := by decide +kernel
theorem d_T_leadOn_68 : decode b_T_leadOn 68 = .ok (.iload_n 2, 1) := by decide +kernel
theorem d_T_leadOn_69 : decode b_T_leadOn 69 = .ok (.dup2, 1) := by decide +kernel
theorem d_T_leadOn_70 : decode b_T_leadOn 70 = .ok (.iaload, 1) := by decide +kernel
theorem d_T_leadOn_71 : decode b_T_leadOn 71 = .ok (.iconst 1, 1) := by decide +kernel
theorem d_T_leadOn_72 : decode b_T_leadOn 72 = .ok (.iadd, 1) := by decide +kernel
theorem d_T_leadOn_73 : decode b_T_leadOn 73 = .ok (.iastore, 1) := by decide +kernel
theorem d_T_leadOn_74 : decode b_T_leadOn 74 = .ok (.return_, 1) := by decide +kernel
