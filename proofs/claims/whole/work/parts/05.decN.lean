theorem d_N_init_0 : decode b_N_init 0 = .ok (.aload_n 0, 1) := by decide +kernel
theorem d_N_init_1 : decode b_N_init 1 = .ok (.invokespecial 5, 3) := by decide +kernel
theorem d_N_init_4 : decode b_N_init 4 = .ok (.aload_n 0, 1) := by decide +kernel
theorem d_N_init_5 : decode b_N_init 5 = .ok (.bipush 64, 2) := by decide +kernel
theorem d_N_init_7 : decode b_N_init 7 = .ok (.newarray .int, 2) := by decide +kernel
theorem d_N_init_9 : decode b_N_init 9 = .ok (.putfield 11, 3) := by decide +kernel
theorem d_N_init_12 : decode b_N_init 12 = .ok (.aload_n 0, 1) := by decide +kernel
theorem d_N_init_13 : decode b_N_init 13 = .ok (.bipush 64, 2) := by decide +kernel
theorem d_N_init_15 : decode b_N_init 15 = .ok (.newarray .int, 2) := by decide +kernel
theorem d_N_init_17 : decode b_N_init 17 = .ok (.putfield 15, 3) := by decide +kernel
theorem d_N_init_20 : decode b_N_init 20 = .ok (.aload_n 0, 1) := by decide +kernel
theorem d_N_init_21 : decode b_N_init 21 = .ok (.bipush 10, 2) := by decide +kernel
theorem d_N_init_23 : decode b_N_init 23 = .ok (.bipush 8, 2) := by decide +kernel
theorem d_N_init_25 : decode b_N_init 25 = .ok (.multianewarray 18 2, 4) := by decide +kernel
theorem d_N_init_29 : decode b_N_init 29 = .ok (.putfield 20, 3) := by decide +kernel
theorem d_N_init_32 : decode b_N_init 32 = .ok (.aload_n 0, 1) := by decide +kernel
theorem d_N_init_33 : decode b_N_init 33 = .ok (.bipush 10, 2) := by decide +kernel
theorem d_N_init_35 : decode b_N_init 35 = .ok (.newarray .int, 2) := by decide +kernel
theorem d_N_init_37 : decode b_N_init 37 = .ok (.putfield 23, 3) := by decide +kernel
theorem d_N_init_40 : decode b_N_init 40 = .ok (.aload_n 0, 1) := by decide +kernel
theorem d_N_init_41 : decode b_N_init 41 = .ok (.bipush 64, 2) := by decide +kernel
theorem d_N_init_43 : decode b_N_init 43 = .ok (.newarray .int, 2) := by decide +kernel
theorem d_N_init_45 : decode b_N_init 45 = .ok (.putfield 26, 3) := by decide +kernel
theorem d_N_init_48 : decode b_N_init 48 = .ok (.aload_n 0, 1) := by decide +kernel
theorem d_N_init_49 : decode b_N_init 49 = .ok (.bipush 64, 2) := by decide +kernel
theorem d_N_init_51 : decode b_N_init 51 = .ok (.newarray .int, 2) := by decide +kernel
theorem d_N_init_53 : decode b_N_init 53 = .ok (.putfield 29, 3) := by decide +kernel
theorem d_N_init_56 : decode b_N_init 56 = .ok (.aload_n 0, 1) := by decide +kernel
theorem d_N_init_57 : decode b_N_init 57 = .ok (.bipush 64, 2) := by decide +kernel
theorem d_N_init_59 : decode b_N_init 59 = .ok (.newarray .int, 2) := by decide +kernel
theorem d_N_init_61 : decode b_N_init 61 = .ok (.putfield 32, 3) := by decide +kernel
theorem d_N_init_64 : decode b_N_init 64 = .ok (.aload_n 0, 1) := by decide +kernel
theorem d_N_init_65 : decode b_N_init 65 = .ok (.bipush 32, 2) := by decide +kernel
theorem d_N_init_67 : decode b_N_init 67 = .ok (.bipush 64, 2) := by decide +kernel
theorem d_N_init_69 : decode b_N_init 69 = .ok (.invokestatic 35, 3) := by decide +kernel
theorem d_N_init_72 : decode b_N_init 72 = .ok (.isub, 1) := by decide +kernel
theorem d_N_init_73 : decode b_N_init 73 = .ok (.putfield 41, 3) := by decide +kernel
theorem d_N_init_76 : decode b_N_init 76 = .ok (.aload_n 0, 1) := by decide +kernel
theorem d_N_init_77 : decode b_N_init 77 = .ok (.iconst 0, 1) := by decide +kernel
theorem d_N_init_78 : decode b_N_init 78 = .ok (.putfield 45, 3) := by decide +kernel
theorem d_N_init_81 : decode b_N_init 81 = .ok (.aload_n 0, 1) := by decide +kernel
theorem d_N_init_82 : decode b_N_init 82 = .ok (.iconst 2, 1) := by decide +kernel
theorem d_N_init_83 : decode b_N_init 83 = .ok (.putfield 48, 3) := by decide +kernel
theorem d_N_init_86 : decode b_N_init 86 = .ok (.aload_n 0, 1) := by decide +kernel
theorem d_N_init_87 : decode b_N_init 87 = .ok (.iconst 0, 1) := by decide +kernel
theorem d_N_init_88 : decode b_N_init 88 = .ok (.putfield 51, 3) := by decide +kernel
theorem d_N_init_91 : decode b_N_init 91 = .ok (.aload_n 0, 1) := by decide +kernel
theorem d_N_init_92 : decode b_N_init 92 = .ok (.bipush 64, 2) := by decide +kernel
theorem d_N_init_94 : decode b_N_init 94 = .ok (.newarray .int, 2) := by decide +kernel
theorem d_N_init_96 : decode b_N_init 96 = .ok (.putfield 54, 3) := by decide +kernel
theorem d_N_init_99 : decode b_N_init 99 = .ok (.aload_n 0, 1) := by decide +kernel
theorem d_N_init_100 : decode b_N_init 100 = .ok (.iconst 0, 1) := by decide +kernel
theorem d_N_init_101 : decode b_N_init 101 = .ok (.putfield 57, 3) := by decide +kernel
theorem d_N_init_104 : decode b_N_init 104 = .ok (.iconst 0, 1) := by decide +kernel
theorem d_N_init_105 : decode b_N_init 105 = .ok (.istore_n 1, 1) := by decide +kernel
theorem d_N_init_106 : decode b_N_init 106 = .ok (.iload_n 1, 1) := by decide +kernel
theorem d_N_init_107 : decode b_N_init 107 = .ok (.iconst 2, 1) := by decide +kernel
theorem d_N_init_108 : decode b_N_init 108 = .ok (.if_icmp .ge 25, 3) := by decide +kernel
theorem d_N_init_111 : decode b_N_init 111 = .ok (.aload_n 0, 1) := by decide +kernel
theorem d_N_init_112 : decode b_N_init 112 = .ok (.getfield 11, 3) := by decide +kernel
theorem d_N_init_115 : decode b_N_init 115 = .ok (.iload_n 1, 1) := by decide +kernel
theorem d_N_init_116 : decode b_N_init 116 = .ok (.ldc 60, 2) := by decide +kernel
theorem d_N_init_118 : decode b_N_init 118 = .ok (.iastore, 1) := by decide +kernel
theorem d_N_init_119 : decode b_N_init 119 = .ok (.aload_n 0, 1) := by decide +kernel
theorem d_N_init_120 : decode b_N_init 120 = .ok (.getfield 15, 3) := by decide +kernel
theorem d_N_init_123 : decode b_N_init 123 = .ok (.iload_n 1, 1) := by decide +kernel
theorem d_N_init_124 : decode b_N_init 124 = .ok (.ldc 61, 2) := by decide +kernel
theorem d_N_init_126 : decode b_N_init 126 = .ok (.iastore, 1) := by decide +kernel
theorem d_N_init_127 : decode b_N_init 127 = .ok (.iinc 1 1, 3) := by decide +kernel
theorem d_N_init_130 : decode b_N_init 130 = .ok (.goto (-24), 3) := by decide +kernel
theorem d_N_init_133 : decode b_N_init 133 = .ok (.return_, 1) := by decide +kernel
theorem d_N_wholeSize_0 : decode b_N_wholeSize 0 = .ok (.aload_n 0, 1) := by decide +kernel
theorem d_N_wholeSize_1 : decode b_N_wholeSize 1 = .ok (.getfield 51, 3) := by decide +kernel
theorem d_N_wholeSize_4 : decode b_N_wholeSize 4 = .ok (.ireturn, 1) := by decide +kernel
theorem d_N_asksFor_0 : decode b_N_asksFor 0 = .ok (.aload_n 0, 1) := by decide +kernel
theorem d_N_asksFor_1 : decode b_N_asksFor 1 = .ok (.getfield 23, 3) := by decide +kernel
theorem d_N_asksFor_4 : decode b_N_asksFor 4 = .ok (.iload_n 1, 1) := by decide +kernel
theorem d_N_asksFor_5 : decode b_N_asksFor 5 = .ok (.iaload, 1) := by decide +kernel
theorem d_N_asksFor_6 : decode b_N_asksFor 6 = .ok (.ireturn, 1) := by decide +kernel
theorem d_N_makeRoomFor_0 : decode b_N_makeRoomFor 0 = .ok (.aload_n 0, 1) := by decide +kernel
theorem d_N_makeRoomFor_1 : decode b_N_makeRoomFor 1 = .ok (.getfield 11, 3) := by decide +kernel
theorem d_N_makeRoomFor_4 : decode b_N_makeRoomFor 4 = .ok (.arraylength, 1) := by decide +kernel
theorem d_N_makeRoomFor_5 : decode b_N_makeRoomFor 5 = .ok (.istore_n 2, 1) := by decide +kernel
theorem d_N_makeRoomFor_6 : decode b_N_makeRoomFor 6 = .ok (.iload_n 1, 1) := by decide +kernel
theorem d_N_makeRoomFor_7 : decode b_N_makeRoomFor 7 = .ok (.iload_n 2, 1) := by decide +kernel
theorem d_N_makeRoomFor_8 : decode b_N_makeRoomFor 8 = .ok (.if_icmp .gt 4, 3) := by decide +kernel
theorem d_N_makeRoomFor_11 : decode b_N_makeRoomFor 11 = .ok (.return_, 1) := by decide +kernel
theorem d_N_makeRoomFor_12 : decode b_N_makeRoomFor 12 = .ok (.iload_n 2, 1) := by decide +kernel
theorem d_N_makeRoomFor_13 : decode b_N_makeRoomFor 13 = .ok (.iload_n 1, 1) := by decide +kernel
theorem d_N_makeRoomFor_14 : decode b_N_makeRoomFor 14 = .ok (.if_icmp .ge 17, 3) := by decide +kernel
theorem d_N_makeRoomFor_17 : decode b_N_makeRoomFor 17 = .ok (.iload_n 2, 1) := by decide +kernel
theorem d_N_makeRoomFor_18 : decode b_N_makeRoomFor 18 = .ok (.sipush 16384, 3) := by decide +kernel
theorem d_N_makeRoomFor_21 : decode b_N_makeRoomFor 21 = .ok (.if_icmp .ge 10, 3) := by decide +kernel
theorem d_N_makeRoomFor_24 : decode b_N_makeRoomFor 24 = .ok (.iload_n 2, 1) := by decide +kernel
theorem d_N_makeRoomFor_25 : decode b_N_makeRoomFor 25 = .ok (.iconst 2, 1) := by decide +kernel
theorem d_N_makeRoomFor_26 : decode b_N_makeRoomFor 26 = .ok (.imul, 1) := by decide +kernel
theorem d_N_makeRoomFor_27 : decode b_N_makeRoomFor 27 = .ok (.istore_n 2, 1) := by decide +kernel
theorem d_N_makeRoomFor_28 : decode b_N_makeRoomFor 28 = .ok (.goto (-16), 3) := by decide +kernel
theorem d_N_makeRoomFor_31 : decode b_N_makeRoomFor 31 = .ok (.aload_n 0, 1) := by decide +kernel
theorem d_N_makeRoomFor_32 : decode b_N_makeRoomFor 32 = .ok (.aload_n 0, 1) := by decide +kernel
theorem d_N_makeRoomFor_33 : decode b_N_makeRoomFor 33 = .ok (.getfield 11, 3) := by decide +kernel
theorem d_N_makeRoomFor_36 : decode b_N_makeRoomFor 36 = .ok (.iload_n 2, 1) := by decide +kernel
theorem d_N_makeRoomFor_37 : decode b_N_makeRoomFor 37 = .ok (.invokestatic 62, 3) := by decide +kernel
theorem d_N_makeRoomFor_40 : decode b_N_makeRoomFor 40 = .ok (.putfield 11, 3) := by decide +kernel
theorem d_N_makeRoomFor_43 : decode b_N_makeRoomFor 43 = .ok (.aload_n 0, 1) := by decide +kernel
theorem d_N_makeRoomFor_44 : decode b_N_makeRoomFor 44 = .ok (.aload_n 0, 1) := by decide +kernel
theorem d_N_makeRoomFor_45 : decode b_N_makeRoomFor 45 = .ok (.getfield 15, 3) := by decide +kernel
theorem d_N_makeRoomFor_48 : decode b_N_makeRoomFor 48 = .ok (.iload_n 2, 1) := by decide +kernel
theorem d_N_makeRoomFor_49 : decode b_N_makeRoomFor 49 = .ok (.invokestatic 62, 3) := by decide +kernel
theorem d_N_makeRoomFor_52 : decode b_N_makeRoomFor 52 = .ok (.putfield 15, 3) := by decide +kernel
theorem d_N_makeRoomFor_55 : decode b_N_makeRoomFor 55 = .ok (.aload_n 0, 1) := by decide +kernel
theorem d_N_makeRoomFor_56 : decode b_N_makeRoomFor 56 = .ok (.aload_n 0, 1) := by decide +kernel
theorem d_N_makeRoomFor_57 : decode b_N_makeRoomFor 57 = .ok (.getfield 26, 3) := by decide +kernel
theorem d_N_makeRoomFor_60 : decode b_N_makeRoomFor 60 = .ok (.iload_n 2, 1) := by decide +kernel
theorem d_N_makeRoomFor_61 : decode b_N_makeRoomFor 61 = .ok (.invokestatic 62, 3) := by decide +kernel
theorem d_N_makeRoomFor_64 : decode b_N_makeRoomFor 64 = .ok (.putfield 26, 3) := by decide +kernel
theorem d_N_makeRoomFor_67 : decode b_N_makeRoomFor 67 = .ok (.aload_n 0, 1) := by decide +kernel
theorem d_N_makeRoomFor_68 : decode b_N_makeRoomFor 68 = .ok (.aload_n 0, 1) := by decide +kernel
theorem d_N_makeRoomFor_69 : decode b_N_makeRoomFor 69 = .ok (.getfield 29, 3) := by decide +kernel
theorem d_N_makeRoomFor_72 : decode b_N_makeRoomFor 72 = .ok (.iload_n 2, 1) := by decide +kernel
theorem d_N_makeRoomFor_73 : decode b_N_makeRoomFor 73 = .ok (.invokestatic 62, 3) := by decide +kernel
theorem d_N_makeRoomFor_76 : decode b_N_makeRoomFor 76 = .ok (.putfield 29, 3) := by decide +kernel
theorem d_N_makeRoomFor_79 : decode b_N_makeRoomFor 79 = .ok (.aload_n 0, 1) := by decide +kernel
theorem d_N_makeRoomFor_80 : decode b_N_makeRoomFor 80 = .ok (.aload_n 0, 1) := by decide +kernel
theorem d_N_makeRoomFor_81 : decode b_N_makeRoomFor 81 = .ok (.getfield 54, 3) := by decide +kernel
theorem d_N_makeRoomFor_84 : decode b_N_makeRoomFor 84 = .ok (.iload_n 2, 1) := by decide +kernel
theorem d_N_makeRoomFor_85 : decode b_N_makeRoomFor 85 = .ok (.invokestatic 62, 3) := by decide +kernel
theorem d_N_makeRoomFor_88 : decode b_N_makeRoomFor 88 = .ok (.putfield 54, 3) := by decide +kernel
theorem d_N_makeRoomFor_91 : decode b_N_makeRoomFor 91 = .ok (.aload_n 0, 1) := by decide +kernel
theorem d_N_makeRoomFor_92 : decode b_N_makeRoomFor 92 = .ok (.iload_n 2, 1) := by decide +kernel
theorem d_N_makeRoomFor_93 : decode b_N_makeRoomFor 93 = .ok (.newarray .int, 2) := by decide +kernel
theorem d_N_makeRoomFor_95 : decode b_N_makeRoomFor 95 = .ok (.putfield 32, 3) := by decide +kernel
theorem d_N_makeRoomFor_98 : decode b_N_makeRoomFor 98 = .ok (.aload_n 0, 1) := by decide +kernel
theorem d_N_makeRoomFor_99 : decode b_N_makeRoomFor 99 = .ok (.bipush 32, 2) := by decide +kernel
theorem d_N_makeRoomFor_101 : decode b_N_makeRoomFor 101 = .ok (.iload_n 2, 1) := by decide +kernel
theorem d_N_makeRoomFor_102 : decode b_N_makeRoomFor 102 = .ok (.invokestatic 35, 3) := by decide +kernel
theorem d_N_makeRoomFor_105 : decode b_N_makeRoomFor 105 = .ok (.isub, 1) := by decide +kernel
theorem d_N_makeRoomFor_106 : decode b_N_makeRoomFor 106 = .ok (.putfield 41, 3) := by decide +kernel
theorem d_N_makeRoomFor_109 : decode b_N_makeRoomFor 109 = .ok (.iconst 2, 1) := by decide +kernel
theorem d_N_makeRoomFor_110 : decode b_N_makeRoomFor 110 = .ok (.istore_n 3, 1) := by decide +kernel
theorem d_N_makeRoomFor_111 : decode b_N_makeRoomFor 111 = .ok (.iload_n 3, 1) := by decide +kernel
theorem d_N_makeRoomFor_112 : decode b_N_makeRoomFor 112 = .ok (.aload_n 0, 1) := by decide +kernel
theorem d_N_makeRoomFor_113 : decode b_N_makeRoomFor 113 = .ok (.getfield 48, 3) := by decide +kernel
theorem d_N_makeRoomFor_116 : decode b_N_makeRoomFor 116 = .ok (.if_icmp .ge 23, 3) := by decide +kernel
theorem d_N_makeRoomFor_119 : decode b_N_makeRoomFor 119 = .ok (.aload_n 0, 1) := by decide +kernel
theorem d_N_makeRoomFor_120 : decode b_N_makeRoomFor 120 = .ok (.getfield 11, 3) := by decide +kernel
theorem d_N_makeRoomFor_123 : decode b_N_makeRoomFor 123 = .ok (.iload_n 3, 1) := by decide +kernel
theorem d_N_makeRoomFor_124 : decode b_N_makeRoomFor 124 = .ok (.iaload, 1) := by decide +kernel
theorem d_N_makeRoomFor_125 : decode b_N_makeRoomFor 125 = .ok (.ifCond .eq 8, 3) := by decide +kernel
theorem d_N_makeRoomFor_128 : decode b_N_makeRoomFor 128 = .ok (.aload_n 0, 1) := by decide +kernel
theorem d_N_makeRoomFor_129 : decode b_N_makeRoomFor 129 = .ok (.iload_n 3, 1) := by decide +kernel
theorem d_N_makeRoomFor_130 : decode b_N_makeRoomFor 130 = .ok (.invokevirtual 66, 3) := by decide +kernel
theorem d_N_makeRoomFor_133 : decode b_N_makeRoomFor 133 = .ok (.iinc 3 1, 3) := by decide +kernel
theorem d_N_makeRoomFor_136 : decode b_N_makeRoomFor 136 = .ok (.goto (-25), 3) := by decide +kernel
theorem d_N_makeRoomFor_139 : decode b_N_makeRoomFor 139 = .ok (.return_, 1) := by decide +kernel
theorem d_N_lengthened_0 : decode b_N_lengthened 0 = .ok (.iload_n 1, 1) := by decide +kernel
theorem d_N_lengthened_1 : decode b_N_lengthened 1 = .ok (.newarray .int, 2) := by decide +kernel
theorem d_N_lengthened_3 : decode b_N_lengthened 3 = .ok (.astore_n 2, 1) := by decide +kernel
theorem d_N_lengthened_4 : decode b_N_lengthened 4 = .ok (.aload_n 0, 1) := by decide +kernel
theorem d_N_lengthened_5 : decode b_N_lengthened 5 = .ok (.iconst 0, 1) := by decide +kernel
theorem d_N_lengthened_6 : decode b_N_lengthened 6 = .ok (.aload_n 2, 1) := by decide +kernel
theorem d_N_lengthened_7 : decode b_N_lengthened 7 = .ok (.iconst 0, 1) := by decide +kernel
theorem d_N_lengthened_8 : decode b_N_lengthened 8 = .ok (.aload_n 0, 1) := by decide +kernel
theorem d_N_lengthened_9 : decode b_N_lengthened 9 = .ok (.arraylength, 1) := by decide +kernel
theorem d_N_lengthened_10 : decode b_N_lengthened 10 = .ok (.invokestatic 70, 3) := by decide +kernel
theorem d_N_lengthened_13 : decode b_N_lengthened 13 = .ok (.aload_n 2, 1) := by decide +kernel
theorem d_N_lengthened_14 : decode b_N_lengthened 14 = .ok (.areturn, 1) := by decide +kernel
theorem d_N_found_0 : decode b_N_found 0 = .ok (.aload_n 0, 1) := by decide +kernel
theorem d_N_found_1 : decode b_N_found 1 = .ok (.getfield 32, 3) := by decide +kernel
theorem d_N_found_4 : decode b_N_found 4 = .ok (.iload_n 1, 1) := by decide +kernel
theorem d_N_found_5 : decode b_N_found 5 = .ok (.ldc 76, 2) := by decide +kernel
theorem d_N_found_7 : decode b_N_found 7 = .ok (.imul, 1) := by decide +kernel
theorem d_N_found_8 : decode b_N_found 8 = .ok (.aload_n 0, 1) := by decide +kernel
theorem d_N_found_9 : decode b_N_found 9 = .ok (.getfield 41, 3) := by decide +kernel
theorem d_N_found_12 : decode b_N_found 12 = .ok (.iushr, 1) := by decide +kernel
theorem d_N_found_13 : decode b_N_found 13 = .ok (.iaload, 1) := by decide +kernel
theorem d_N_found_14 : decode b_N_found 14 = .ok (.istore_n 2, 1) := by decide +kernel
theorem d_N_found_15 : decode b_N_found 15 = .ok (.iconst 0, 1) := by decide +kernel
theorem d_N_found_16 : decode b_N_found 16 = .ok (.istore_n 3, 1) := by decide +kernel
theorem d_N_found_17 : decode b_N_found 17 = .ok (.iload_n 2, 1) := by decide +kernel
theorem d_N_found_18 : decode b_N_found 18 = .ok (.ifCond .eq 35, 3) := by decide +kernel
theorem d_N_found_21 : decode b_N_found 21 = .ok (.iload_n 3, 1) := by decide +kernel
theorem d_N_found_22 : decode b_N_found 22 = .ok (.sipush 16384, 3) := by decide +kernel
theorem d_N_found_25 : decode b_N_found 25 = .ok (.if_icmp .ge 28, 3) := by decide +kernel
theorem d_N_found_28 : decode b_N_found 28 = .ok (.aload_n 0, 1) := by decide +kernel
theorem d_N_found_29 : decode b_N_found 29 = .ok (.getfield 11, 3) := by decide +kernel
theorem d_N_found_32 : decode b_N_found 32 = .ok (.iload_n 2, 1) := by decide +kernel
theorem d_N_found_33 : decode b_N_found 33 = .ok (.iaload, 1) := by decide +kernel
theorem d_N_found_34 : decode b_N_found 34 = .ok (.iload_n 1, 1) := by decide +kernel
theorem d_N_found_35 : decode b_N_found 35 = .ok (.if_icmp .ne 5, 3) := by decide +kernel
theorem d_N_found_38 : decode b_N_found 38 = .ok (.iload_n 2, 1) := by decide +kernel
theorem d_N_found_39 : decode b_N_found 39 = .ok (.ireturn, 1) := by decide +kernel
theorem d_N_found_40 : decode b_N_found 40 = .ok (.aload_n 0, 1) := by decide +kernel
theorem d_N_found_41 : decode b_N_found 41 = .ok (.getfield 29, 3) := by decide +kernel
theorem d_N_found_44 : decode b_N_found 44 = .ok (.iload_n 2, 1) := by decide +kernel
theorem d_N_found_45 : decode b_N_found 45 = .ok (.iaload, 1) := by decide +kernel
theorem d_N_found_46 : decode b_N_found 46 = .ok (.istore_n 2, 1) := by decide +kernel
theorem d_N_found_47 : decode b_N_found 47 = .ok (.iinc 3 1, 3) := by decide +kernel
theorem d_N_found_50 : decode b_N_found 50 = .ok (.goto (-33), 3) := by decide +kernel
theorem d_N_found_53 : decode b_N_found 53 = .ok (.iconst 0, 1) := by decide +kernel
theorem d_N_found_54 : decode b_N_found 54 = .ok (.ireturn, 1) := by decide +kernel
theorem d_N_nodeFor_0 : decode b_N_nodeFor 0 = .ok (.iload_n 2, 1) := by decide +kernel
theorem d_N_nodeFor_1 : decode b_N_nodeFor 1 = .ok (.iload_n 3, 1) := by decide +kernel
theorem d_N_nodeFor_2 : decode b_N_nodeFor 2 = .ok (.if_icmp .ne 5, 3) := by decide +kernel
theorem d_N_nodeFor_5 : decode b_N_nodeFor 5 = .ok (.iload_n 2, 1) := by decide +kernel
theorem d_N_nodeFor_6 : decode b_N_nodeFor 6 = .ok (.ireturn, 1) := by decide +kernel
theorem d_N_nodeFor_7 : decode b_N_nodeFor 7 = .ok (.iload_n 1, 1) := by decide +kernel
theorem d_N_nodeFor_8 : decode b_N_nodeFor 8 = .ok (.bipush 28, 2) := by decide +kernel
theorem d_N_nodeFor_10 : decode b_N_nodeFor 10 = .ok (.ishl, 1) := by decide +kernel
theorem d_N_nodeFor_11 : decode b_N_nodeFor 11 = .ok (.iload_n 2, 1) := by decide +kernel
theorem d_N_nodeFor_12 : decode b_N_nodeFor 12 = .ok (.bipush 14, 2) := by decide +kernel
theorem d_N_nodeFor_14 : decode b_N_nodeFor 14 = .ok (.ishl, 1) := by decide +kernel
theorem d_N_nodeFor_15 : decode b_N_nodeFor 15 = .ok (.ior, 1) := by decide +kernel
theorem d_N_nodeFor_16 : decode b_N_nodeFor 16 = .ok (.iload_n 3, 1) := by decide +kernel
theorem d_N_nodeFor_17 : decode b_N_nodeFor 17 = .ok (.ior, 1) := by decide +kernel
theorem d_N_nodeFor_18 : decode b_N_nodeFor 18 = .ok (.istore 4, 2) := by decide +kernel
theorem d_N_nodeFor_20 : decode b_N_nodeFor 20 = .ok (.aload_n 0, 1) := by decide +kernel
theorem d_N_nodeFor_21 : decode b_N_nodeFor 21 = .ok (.iload 4, 2) := by decide +kernel
theorem d_N_nodeFor_23 : decode b_N_nodeFor 23 = .ok (.invokevirtual 77, 3) := by decide +kernel
theorem d_N_nodeFor_26 : decode b_N_nodeFor 26 = .ok (.istore 5, 2) := by decide +kernel
theorem d_N_nodeFor_28 : decode b_N_nodeFor 28 = .ok (.iload 5, 2) := by decide +kernel
theorem d_N_nodeFor_30 : decode b_N_nodeFor 30 = .ok (.ifCond .ne 120, 3) := by decide +kernel
theorem d_N_nodeFor_33 : decode b_N_nodeFor 33 = .ok (.aload_n 0, 1) := by decide +kernel
theorem d_N_nodeFor_34 : decode b_N_nodeFor 34 = .ok (.getfield 45, 3) := by decide +kernel
theorem d_N_nodeFor_37 : decode b_N_nodeFor 37 = .ok (.ifCond .eq 10, 3) := by decide +kernel
theorem d_N_nodeFor_40 : decode b_N_nodeFor 40 = .ok (.aload_n 0, 1) := by decide +kernel
theorem d_N_nodeFor_41 : decode b_N_nodeFor 41 = .ok (.getfield 45, 3) := by decide +kernel
theorem d_N_nodeFor_44 : decode b_N_nodeFor 44 = .ok (.goto 7, 3) := by decide +kernel
theorem d_N_nodeFor_47 : decode b_N_nodeFor 47 = .ok (.aload_n 0, 1) := by decide +kernel
theorem d_N_nodeFor_48 : decode b_N_nodeFor 48 = .ok (.getfield 48, 3) := by decide +kernel
theorem d_N_nodeFor_51 : decode b_N_nodeFor 51 = .ok (.istore 5, 2) := by decide +kernel
theorem d_N_nodeFor_53 : decode b_N_nodeFor 53 = .ok (.iload 5, 2) := by decide +kernel
theorem d_N_nodeFor_55 : decode b_N_nodeFor 55 = .ok (.aload_n 0, 1) := by decide +kernel
theorem d_N_nodeFor_56 : decode b_N_nodeFor 56 = .ok (.getfield 11, 3) := by decide +kernel
theorem d_N_nodeFor_59 : decode b_N_nodeFor 59 = .ok (.arraylength, 1) := by decide +kernel
theorem d_N_nodeFor_60 : decode b_N_nodeFor 60 = .ok (.if_icmp .lt 5, 3) := by decide +kernel
theorem d_N_nodeFor_63 : decode b_N_nodeFor 63 = .ok (.iload_n 2, 1) := by decide +kernel
theorem d_N_nodeFor_64 : decode b_N_nodeFor 64 = .ok (.ireturn, 1) := by decide +kernel
theorem d_N_nodeFor_65 : decode b_N_nodeFor 65 = .ok (.iload 5, 2) := by decide +kernel
theorem d_N_nodeFor_67 : decode b_N_nodeFor 67 = .ok (.aload_n 0, 1) := by decide +kernel
theorem d_N_nodeFor_68 : decode b_N_nodeFor 68 = .ok (.getfield 45, 3) := by decide +kernel
theorem d_N_nodeFor_71 : decode b_N_nodeFor 71 = .ok (.if_icmp .ne 17, 3) := by decide +kernel
theorem d_N_nodeFor_74 : decode b_N_nodeFor 74 = .ok (.aload_n 0, 1) := by decide +kernel
theorem d_N_nodeFor_75 : decode b_N_nodeFor 75 = .ok (.aload_n 0, 1) := by decide +kernel
theorem d_N_nodeFor_76 : decode b_N_nodeFor 76 = .ok (.getfield 29, 3) := by decide +kernel
theorem d_N_nodeFor_79 : decode b_N_nodeFor 79 = .ok (.iload 5, 2) := by decide +kernel
theorem d_N_nodeFor_81 : decode b_N_nodeFor 81 = .ok (.iaload, 1) := by decide +kernel
theorem d_N_nodeFor_82 : decode b_N_nodeFor 82 = .ok (.putfield 45, 3) := by decide +kernel
theorem d_N_nodeFor_85 : decode b_N_nodeFor 85 = .ok (.goto 13, 3) := by decide +kernel
theorem d_N_nodeFor_88 : decode b_N_nodeFor 88 = .ok (.aload_n 0, 1) := by decide +kernel
theorem d_N_nodeFor_89 : decode b_N_nodeFor 89 = .ok (.dup, 1) := by decide +kernel
theorem d_N_nodeFor_90 : decode b_N_nodeFor 90 = .ok (.getfield 48, 3) := by decide +kernel
theorem d_N_nodeFor_93 : decode b_N_nodeFor 93 = .ok (.iconst 1, 1) := by decide +kernel
theorem d_N_nodeFor_94 : decode b_N_nodeFor 94 = .ok (.iadd, 1) := by decide +kernel
theorem d_N_nodeFor_95 : decode b_N_nodeFor 95 = .ok (.putfield 48, 3) := by decide +kernel
theorem d_N_nodeFor_98 : decode b_N_nodeFor 98 = .ok (.aload_n 0, 1) := by decide +kernel
theorem d_N_nodeFor_99 : decode b_N_nodeFor 99 = .ok (.getfield 11, 3) := by decide +kernel
theorem d_N_nodeFor_102 : decode b_N_nodeFor 102 = .ok (.iload 5, 2) := by decide +kernel
theorem d_N_nodeFor_104 : decode b_N_nodeFor 104 = .ok (.iload 4, 2) := by decide +kernel
theorem d_N_nodeFor_106 : decode b_N_nodeFor 106 = .ok (.iastore, 1) := by decide +kernel
theorem d_N_nodeFor_107 : decode b_N_nodeFor 107 = .ok (.aload_n 0, 1) := by decide +kernel
theorem d_N_nodeFor_108 : decode b_N_nodeFor 108 = .ok (.iload 5, 2) := by decide +kernel
theorem d_N_nodeFor_110 : decode b_N_nodeFor 110 = .ok (.invokevirtual 66, 3) := by decide +kernel
theorem d_N_nodeFor_113 : decode b_N_nodeFor 113 = .ok (.aload_n 0, 1) := by decide +kernel
theorem d_N_nodeFor_114 : decode b_N_nodeFor 114 = .ok (.iload 5, 2) := by decide +kernel
theorem d_N_nodeFor_116 : decode b_N_nodeFor 116 = .ok (.iload_n 1, 1) := by decide +kernel
theorem d_N_nodeFor_117 : decode b_N_nodeFor 117 = .ok (.invokevirtual 80, 3) := by decide +kernel
theorem d_N_nodeFor_120 : decode b_N_nodeFor 120 = .ok (.aload_n 0, 1) := by decide +kernel
theorem d_N_nodeFor_121 : decode b_N_nodeFor 121 = .ok (.getfield 15, 3) := by decide +kernel
theorem d_N_nodeFor_124 : decode b_N_nodeFor 124 = .ok (.iload_n 2, 1) := by decide +kernel
theorem d_N_nodeFor_125 : decode b_N_nodeFor 125 = .ok (.dup2, 1) := by decide +kernel
theorem d_N_nodeFor_126 : decode b_N_nodeFor 126 = .ok (.iaload, 1) := by decide +kernel
theorem d_N_nodeFor_127 : decode b_N_nodeFor 127 = .ok (.iconst 1, 1) := by decide +kernel
theorem d_N_nodeFor_128 : decode b_N_nodeFor 128 = .ok (.iadd, 1) := by decide +kernel
theorem d_N_nodeFor_129 : decode b_N_nodeFor 129 = .ok (.iastore, 1) := by decide +kernel
theorem d_N_nodeFor_130 : decode b_N_nodeFor 130 = .ok (.aload_n 0, 1) := by decide +kernel
theorem d_N_nodeFor_131 : decode b_N_nodeFor 131 = .ok (.getfield 15, 3) := by decide +kernel
theorem d_N_nodeFor_134 : decode b_N_nodeFor 134 = .ok (.iload_n 3, 1) := by decide +kernel
theorem d_N_nodeFor_135 : decode b_N_nodeFor 135 = .ok (.dup2, 1) := by decide +kernel
theorem d_N_nodeFor_136 : decode b_N_nodeFor 136 = .ok (.iaload, 1) := by decide +kernel
theorem d_N_nodeFor_137 : decode b_N_nodeFor 137 = .ok (.iconst 1, 1) := by decide +kernel
theorem d_N_nodeFor_138 : decode b_N_nodeFor 138 = .ok (.iadd, 1) := by decide +kernel
theorem d_N_nodeFor_139 : decode b_N_nodeFor 139 = .ok (.iastore, 1) := by decide +kernel
theorem d_N_nodeFor_140 : decode b_N_nodeFor 140 = .ok (.aload_n 0, 1) := by decide +kernel
theorem d_N_nodeFor_141 : decode b_N_nodeFor 141 = .ok (.dup, 1) := by decide +kernel
theorem d_N_nodeFor_142 : decode b_N_nodeFor 142 = .ok (.getfield 51, 3) := by decide +kernel
theorem d_N_nodeFor_145 : decode b_N_nodeFor 145 = .ok (.iconst 1, 1) := by decide +kernel
theorem d_N_nodeFor_146 : decode b_N_nodeFor 146 = .ok (.iadd, 1) := by decide +kernel
theorem d_N_nodeFor_147 : decode b_N_nodeFor 147 = .ok (.putfield 51, 3) := by decide +kernel
theorem d_N_nodeFor_150 : decode b_N_nodeFor 150 = .ok (.iload 5, 2) := by decide +kernel
theorem d_N_nodeFor_152 : decode b_N_nodeFor 152 = .ok (.ireturn, 1) := by decide +kernel
theorem d_N_enlist_0 : decode b_N_enlist 0 = .ok (.aload_n 0, 1) := by decide +kernel
theorem d_N_enlist_1 : decode b_N_enlist 1 = .ok (.getfield 23, 3) := by decide +kernel
theorem d_N_enlist_4 : decode b_N_enlist 4 = .ok (.iload_n 2, 1) := by decide +kernel
theorem d_N_enlist_5 : decode b_N_enlist 5 = .ok (.iaload, 1) := by decide +kernel
theorem d_N_enlist_6 : decode b_N_enlist 6 = .ok (.istore_n 3, 1) := by decide +kernel
theorem d_N_enlist_7 : decode b_N_enlist 7 = .ok (.iload_n 3, 1) := by decide +kernel
theorem d_N_enlist_8 : decode b_N_enlist 8 = .ok (.aload_n 0, 1) := by decide +kernel
theorem d_N_enlist_9 : decode b_N_enlist 9 = .ok (.getfield 20, 3) := by decide +kernel
theorem d_N_enlist_12 : decode b_N_enlist 12 = .ok (.iload_n 2, 1) := by decide +kernel
theorem d_N_enlist_13 : decode b_N_enlist 13 = .ok (.aaload, 1) := by decide +kernel
theorem d_N_enlist_14 : decode b_N_enlist 14 = .ok (.arraylength, 1) := by decide +kernel
theorem d_N_enlist_15 : decode b_N_enlist 15 = .ok (.if_icmp .lt 32, 3) := by decide +kernel
theorem d_N_enlist_18 : decode b_N_enlist 18 = .ok (.iconst 2, 1) := by decide +kernel
theorem d_N_enlist_19 : decode b_N_enlist 19 = .ok (.iload_n 3, 1) := by decide +kernel
theorem d_N_enlist_20 : decode b_N_enlist 20 = .ok (.imul, 1) := by decide +kernel
theorem d_N_enlist_21 : decode b_N_enlist 21 = .ok (.newarray .int, 2) := by decide +kernel
theorem d_N_enlist_23 : decode b_N_enlist 23 = .ok (.astore 4, 2) := by decide +kernel
theorem d_N_enlist_25 : decode b_N_enlist 25 = .ok (.aload_n 0, 1) := by decide +kernel
theorem d_N_enlist_26 : decode b_N_enlist 26 = .ok (.getfield 20, 3) := by decide +kernel
theorem d_N_enlist_29 : decode b_N_enlist 29 = .ok (.iload_n 2, 1) := by decide +kernel
theorem d_N_enlist_30 : decode b_N_enlist 30 = .ok (.aaload, 1) := by decide +kernel
theorem d_N_enlist_31 : decode b_N_enlist 31 = .ok (.iconst 0, 1) := by decide +kernel
theorem d_N_enlist_32 : decode b_N_enlist 32 = .ok (.aload 4, 2) := by decide +kernel
theorem d_N_enlist_34 : decode b_N_enlist 34 = .ok (.iconst 0, 1) := by decide +kernel
theorem d_N_enlist_35 : decode b_N_enlist 35 = .ok (.iload_n 3, 1) := by decide +kernel
theorem d_N_enlist_36 : decode b_N_enlist 36 = .ok (.invokestatic 70, 3) := by decide +kernel
theorem d_N_enlist_39 : decode b_N_enlist 39 = .ok (.aload_n 0, 1) := by decide +kernel
theorem d_N_enlist_40 : decode b_N_enlist 40 = .ok (.getfield 20, 3) := by decide +kernel
theorem d_N_enlist_43 : decode b_N_enlist 43 = .ok (.iload_n 2, 1) := by decide +kernel
theorem d_N_enlist_44 : decode b_N_enlist 44 = .ok (.aload 4, 2) := by decide +kernel
theorem d_N_enlist_46 : decode b_N_enlist 46 = .ok (.aastore, 1) := by decide +kernel
theorem d_N_enlist_47 : decode b_N_enlist 47 = .ok (.aload_n 0, 1) := by decide +kernel
theorem d_N_enlist_48 : decode b_N_enlist 48 = .ok (.getfield 20, 3) := by decide +kernel
theorem d_N_enlist_51 : decode b_N_enlist 51 = .ok (.iload_n 2, 1) := by decide +kernel
theorem d_N_enlist_52 : decode b_N_enlist 52 = .ok (.aaload, 1) := by decide +kernel
theorem d_N_enlist_53 : decode b_N_enlist 53 = .ok (.iload_n 3, 1) := by decide +kernel
theorem d_N_enlist_54 : decode b_N_enlist 54 = .ok (.iload_n 1, 1) := by decide +kernel
theorem d_N_enlist_55 : decode b_N_enlist 55 = .ok (.iastore, 1) := by decide +kernel
theorem d_N_enlist_56 : decode b_N_enlist 56 = .ok (.aload_n 0, 1) := by decide +kernel
theorem d_N_enlist_57 : decode b_N_enlist 57 = .ok (.getfield 26, 3) := by decide +kernel
theorem d_N_enlist_60 : decode b_N_enlist 60 = .ok (.iload_n 1, 1) := by decide +kernel
theorem d_N_enlist_61 : decode b_N_enlist 61 = .ok (.iload_n 3, 1) := by decide +kernel
theorem d_N_enlist_62 : decode b_N_enlist 62 = .ok (.iastore, 1) := by decide +kernel
theorem d_N_enlist_63 : decode b_N_enlist 63 = .ok (.aload_n 0, 1) := by decide +kernel
theorem d_N_enlist_64 : decode b_N_enlist 64 = .ok (.getfield 23, 3) := by decide +kernel
theorem d_N_enlist_67 : decode b_N_enlist 67 = .ok (.iload_n 2, 1) := by decide +kernel
theorem d_N_enlist_68 : decode b_N_enlist 68 = .ok (.iload_n 3, 1) := by decide +kernel
theorem d_N_enlist_69 : decode b_N_enlist 69 = .ok (.iconst 1, 1) := by decide +kernel
theorem d_N_enlist_70 : decode b_N_enlist 70 = .ok (.iadd, 1) := by decide +kernel
theorem d_N_enlist_71 : decode b_N_enlist 71 = .ok (.iastore, 1) := by decide +kernel
theorem d_N_enlist_72 : decode b_N_enlist 72 = .ok (.return_, 1) := by decide +kernel
theorem d_N_link_0 : decode b_N_link 0 = .ok (.aload_n 0, 1) := by decide +kernel
theorem d_N_link_1 : decode b_N_link 1 = .ok (.getfield 11, 3) := by decide +kernel
theorem d_N_link_4 : decode b_N_link 4 = .ok (.iload_n 1, 1) := by decide +kernel
theorem d_N_link_5 : decode b_N_link 5 = .ok (.iaload, 1) := by decide +kernel
theorem d_N_link_6 : decode b_N_link 6 = .ok (.ldc 76, 2) := by decide +kernel
theorem d_N_link_8 : decode b_N_link 8 = .ok (.imul, 1) := by decide +kernel
theorem d_N_link_9 : decode b_N_link 9 = .ok (.aload_n 0, 1) := by decide +kernel
theorem d_N_link_10 : decode b_N_link 10 = .ok (.getfield 41, 3) := by decide +kernel
theorem d_N_link_13 : decode b_N_link 13 = .ok (.iushr, 1) := by decide +kernel
theorem d_N_link_14 : decode b_N_link 14 = .ok (.istore_n 2, 1) := by decide +kernel
theorem d_N_link_15 : decode b_N_link 15 = .ok (.aload_n 0, 1) := by decide +kernel
theorem d_N_link_16 : decode b_N_link 16 = .ok (.getfield 29, 3) := by decide +kernel
theorem d_N_link_19 : decode b_N_link 19 = .ok (.iload_n 1, 1) := by decide +kernel
theorem d_N_link_20 : decode b_N_link 20 = .ok (.aload_n 0, 1) := by decide +kernel
theorem d_N_link_21 : decode b_N_link 21 = .ok (.getfield 32, 3) := by decide +kernel
theorem d_N_link_24 : decode b_N_link 24 = .ok (.iload_n 2, 1) := by decide +kernel
theorem d_N_link_25 : decode b_N_link 25 = .ok (.iaload, 1) := by decide +kernel
theorem d_N_link_26 : decode b_N_link 26 = .ok (.iastore, 1) := by decide +kernel
theorem d_N_link_27 : decode b_N_link 27 = .ok (.aload_n 0, 1) := by decide +kernel
theorem d_N_link_28 : decode b_N_link 28 = .ok (.getfield 32, 3) := by decide +kernel
theorem d_N_link_31 : decode b_N_link 31 = .ok (.iload_n 2, 1) := by decide +kernel
theorem d_N_link_32 : decode b_N_link 32 = .ok (.iload_n 1, 1) := by decide +kernel
theorem d_N_link_33 : decode b_N_link 33 = .ok (.iastore, 1) := by decide +kernel
theorem d_N_link_34 : decode b_N_link 34 = .ok (.return_, 1) := by decide +kernel
theorem d_N_unlink_0 : decode b_N_unlink 0 = .ok (.aload_n 0, 1) := by decide +kernel
theorem d_N_unlink_1 : decode b_N_unlink 1 = .ok (.getfield 11, 3) := by decide +kernel
theorem d_N_unlink_4 : decode b_N_unlink 4 = .ok (.iload_n 1, 1) := by decide +kernel
theorem d_N_unlink_5 : decode b_N_unlink 5 = .ok (.iaload, 1) := by decide +kernel
theorem d_N_unlink_6 : decode b_N_unlink 6 = .ok (.ldc 76, 2) := by decide +kernel
theorem d_N_unlink_8 : decode b_N_unlink 8 = .ok (.imul, 1) := by decide +kernel
theorem d_N_unlink_9 : decode b_N_unlink 9 = .ok (.aload_n 0, 1) := by decide +kernel
theorem d_N_unlink_10 : decode b_N_unlink 10 = .ok (.getfield 41, 3) := by decide +kernel
theorem d_N_unlink_13 : decode b_N_unlink 13 = .ok (.iushr, 1) := by decide +kernel
theorem d_N_unlink_14 : decode b_N_unlink 14 = .ok (.istore_n 2, 1) := by decide +kernel
theorem d_N_unlink_15 : decode b_N_unlink 15 = .ok (.aload_n 0, 1) := by decide +kernel
theorem d_N_unlink_16 : decode b_N_unlink 16 = .ok (.getfield 32, 3) := by decide +kernel
theorem d_N_unlink_19 : decode b_N_unlink 19 = .ok (.iload_n 2, 1) := by decide +kernel
theorem d_N_unlink_20 : decode b_N_unlink 20 = .ok (.iaload, 1) := by decide +kernel
theorem d_N_unlink_21 : decode b_N_unlink 21 = .ok (.istore_n 3, 1) := by decide +kernel
theorem d_N_unlink_22 : decode b_N_unlink 22 = .ok (.iload_n 3, 1) := by decide +kernel
theorem d_N_unlink_23 : decode b_N_unlink 23 = .ok (.iload_n 1, 1) := by decide +kernel
theorem d_N_unlink_24 : decode b_N_unlink 24 = .ok (.if_icmp .ne 16, 3) := by decide +kernel
theorem d_N_unlink_27 : decode b_N_unlink 27 = .ok (.aload_n 0, 1) := by decide +kernel
theorem d_N_unlink_28 : decode b_N_unlink 28 = .ok (.getfield 32, 3) := by decide +kernel
theorem d_N_unlink_31 : decode b_N_unlink 31 = .ok (.iload_n 2, 1) := by decide +kernel
theorem d_N_unlink_32 : decode b_N_unlink 32 = .ok (.aload_n 0, 1) := by decide +kernel
theorem d_N_unlink_33 : decode b_N_unlink 33 = .ok (.getfield 29, 3) := by decide +kernel
theorem d_N_unlink_36 : decode b_N_unlink 36 = .ok (.iload_n 1, 1) := by decide +kernel
theorem d_N_unlink_37 : decode b_N_unlink 37 = .ok (.iaload, 1) := by decide +kernel
theorem d_N_unlink_38 : decode b_N_unlink 38 = .ok (.iastore, 1) := by decide +kernel
theorem d_N_unlink_39 : decode b_N_unlink 39 = .ok (.return_, 1) := by decide +kernel
theorem d_N_unlink_40 : decode b_N_unlink 40 = .ok (.iconst 0, 1) := by decide +kernel
theorem d_N_unlink_41 : decode b_N_unlink 41 = .ok (.istore 4, 2) := by decide +kernel
theorem d_N_unlink_43 : decode b_N_unlink 43 = .ok (.iload_n 3, 1) := by decide +kernel
theorem d_N_unlink_44 : decode b_N_unlink 44 = .ok (.ifCond .eq 47, 3) := by decide +kernel
theorem d_N_unlink_47 : decode b_N_unlink 47 = .ok (.iload 4, 2) := by decide +kernel
theorem d_N_unlink_49 : decode b_N_unlink 49 = .ok (.sipush 16384, 3) := by decide +kernel
theorem d_N_unlink_52 : decode b_N_unlink 52 = .ok (.if_icmp .ge 39, 3) := by decide +kernel
theorem d_N_unlink_55 : decode b_N_unlink 55 = .ok (.aload_n 0, 1) := by decide +kernel
theorem d_N_unlink_56 : decode b_N_unlink 56 = .ok (.getfield 29, 3) := by decide +kernel
theorem d_N_unlink_59 : decode b_N_unlink 59 = .ok (.iload_n 3, 1) := by decide +kernel
theorem d_N_unlink_60 : decode b_N_unlink 60 = .ok (.iaload, 1) := by decide +kernel
theorem d_N_unlink_61 : decode b_N_unlink 61 = .ok (.istore 5, 2) := by decide +kernel
theorem d_N_unlink_63 : decode b_N_unlink 63 = .ok (.iload 5, 2) := by decide +kernel
theorem d_N_unlink_65 : decode b_N_unlink 65 = .ok (.iload_n 1, 1) := by decide +kernel
theorem d_N_unlink_66 : decode b_N_unlink 66 = .ok (.if_icmp .ne 16, 3) := by decide +kernel
theorem d_N_unlink_69 : decode b_N_unlink 69 = .ok (.aload_n 0, 1) := by decide +kernel
theorem d_N_unlink_70 : decode b_N_unlink 70 = .ok (.getfield 29, 3) := by decide +kernel
theorem d_N_unlink_73 : decode b_N_unlink 73 = .ok (.iload_n 3, 1) := by decide +kernel
theorem d_N_unlink_74 : decode b_N_unlink 74 = .ok (.aload_n 0, 1) := by decide +kernel
theorem d_N_unlink_75 : decode b_N_unlink 75 = .ok (.getfield 29, 3) := by decide +kernel
theorem d_N_unlink_78 : decode b_N_unlink 78 = .ok (.iload_n 1, 1) := by decide +kernel
theorem d_N_unlink_79 : decode b_N_unlink 79 = .ok (.iaload, 1) := by decide +kernel
theorem d_N_unlink_80 : decode b_N_unlink 80 = .ok (.iastore, 1) := by decide +kernel
theorem d_N_unlink_81 : decode b_N_unlink 81 = .ok (.return_, 1) := by decide +kernel
theorem d_N_unlink_82 : decode b_N_unlink 82 = .ok (.iload 5, 2) := by decide +kernel
theorem d_N_unlink_84 : decode b_N_unlink 84 = .ok (.istore_n 3, 1) := by decide +kernel
theorem d_N_unlink_85 : decode b_N_unlink 85 = .ok (.iinc 4 1, 3) := by decide +kernel
theorem d_N_unlink_88 : decode b_N_unlink 88 = .ok (.goto (-45), 3) := by decide +kernel
theorem d_N_unlink_91 : decode b_N_unlink 91 = .ok (.return_, 1) := by decide +kernel
theorem d_N_lead_0 : decode b_N_lead 0 = .ok (.aload_n 0, 1) := by decide +kernel
theorem d_N_lead_1 : decode b_N_lead 1 = .ok (.getfield 15, 3) := by decide +kernel
theorem d_N_lead_4 : decode b_N_lead 4 = .ok (.iload_n 1, 1) := by decide +kernel
theorem d_N_lead_5 : decode b_N_lead 5 = .ok (.dup2, 1) := by decide +kernel
theorem d_N_lead_6 : decode b_N_lead 6 = .ok (.iaload, 1) := by decide +kernel
theorem d_N_lead_7 : decode b_N_lead 7 = .ok (.iconst 1, 1) := by decide +kernel
theorem d_N_lead_8 : decode b_N_lead 8 = .ok (.iadd, 1) := by decide +kernel
theorem d_N_lead_9 : decode b_N_lead 9 = .ok (.iastore, 1) := by decide +kernel
theorem d_N_lead_10 : decode b_N_lead 10 = .ok (.return_, 1) := by decide +kernel
theorem d_N_leadNoMore_0 : decode b_N_leadNoMore 0 = .ok (.aload_n 0, 1) := by decide +kernel
theorem d_N_leadNoMore_1 : decode b_N_leadNoMore 1 = .ok (.iload_n 1, 1) := by decide +kernel
theorem d_N_leadNoMore_2 : decode b_N_leadNoMore 2 = .ok (.bipush 10, 2) := by decide +kernel
theorem d_N_leadNoMore_4 : decode b_N_leadNoMore 4 = .ok (.invokevirtual 84, 3) := by decide +kernel
theorem d_N_leadNoMore_7 : decode b_N_leadNoMore 7 = .ok (.return_, 1) := by decide +kernel
theorem d_N_leave_0 : decode b_N_leave 0 = .ok (.aload_n 0, 1) := by decide +kernel
theorem d_N_leave_1 : decode b_N_leave 1 = .ok (.getfield 15, 3) := by decide +kernel
theorem d_N_leave_4 : decode b_N_leave 4 = .ok (.iload_n 1, 1) := by decide +kernel
theorem d_N_leave_5 : decode b_N_leave 5 = .ok (.dup2, 1) := by decide +kernel
theorem d_N_leave_6 : decode b_N_leave 6 = .ok (.iaload, 1) := by decide +kernel
theorem d_N_leave_7 : decode b_N_leave 7 = .ok (.iconst 1, 1) := by decide +kernel
theorem d_N_leave_8 : decode b_N_leave 8 = .ok (.isub, 1) := by decide +kernel
theorem d_N_leave_9 : decode b_N_leave 9 = .ok (.iastore, 1) := by decide +kernel
theorem d_N_leave_10 : decode b_N_leave 10 = .ok (.aload_n 0, 1) := by decide +kernel
theorem d_N_leave_11 : decode b_N_leave 11 = .ok (.getfield 15, 3) := by decide +kernel
theorem d_N_leave_14 : decode b_N_leave 14 = .ok (.iload_n 1, 1) := by decide +kernel
theorem d_N_leave_15 : decode b_N_leave 15 = .ok (.iaload, 1) := by decide +kernel
theorem d_N_leave_16 : decode b_N_leave 16 = .ok (.ifCond .ne 46, 3) := by decide +kernel
theorem d_N_leave_19 : decode b_N_leave 19 = .ok (.iload_n 2, 1) := by decide +kernel
theorem d_N_leave_20 : decode b_N_leave 20 = .ok (.ifCond .le 42, 3) := by decide +kernel
theorem d_N_leave_23 : decode b_N_leave 23 = .ok (.aload_n 0, 1) := by decide +kernel
theorem d_N_leave_24 : decode b_N_leave 24 = .ok (.getfield 11, 3) := by decide +kernel
theorem d_N_leave_27 : decode b_N_leave 27 = .ok (.iload_n 1, 1) := by decide +kernel
theorem d_N_leave_28 : decode b_N_leave 28 = .ok (.iaload, 1) := by decide +kernel
theorem d_N_leave_29 : decode b_N_leave 29 = .ok (.istore_n 3, 1) := by decide +kernel
theorem d_N_leave_30 : decode b_N_leave 30 = .ok (.aload_n 0, 1) := by decide +kernel
theorem d_N_leave_31 : decode b_N_leave 31 = .ok (.iload_n 1, 1) := by decide +kernel
theorem d_N_leave_32 : decode b_N_leave 32 = .ok (.invokevirtual 87, 3) := by decide +kernel
theorem d_N_leave_35 : decode b_N_leave 35 = .ok (.aload_n 0, 1) := by decide +kernel
theorem d_N_leave_36 : decode b_N_leave 36 = .ok (.iload_n 3, 1) := by decide +kernel
theorem d_N_leave_37 : decode b_N_leave 37 = .ok (.bipush 14, 2) := by decide +kernel
theorem d_N_leave_39 : decode b_N_leave 39 = .ok (.iushr, 1) := by decide +kernel
theorem d_N_leave_40 : decode b_N_leave 40 = .ok (.sipush 16383, 3) := by decide +kernel
theorem d_N_leave_43 : decode b_N_leave 43 = .ok (.iand, 1) := by decide +kernel
theorem d_N_leave_44 : decode b_N_leave 44 = .ok (.iload_n 2, 1) := by decide +kernel
theorem d_N_leave_45 : decode b_N_leave 45 = .ok (.iconst 1, 1) := by decide +kernel
theorem d_N_leave_46 : decode b_N_leave 46 = .ok (.isub, 1) := by decide +kernel
theorem d_N_leave_47 : decode b_N_leave 47 = .ok (.invokevirtual 84, 3) := by decide +kernel
theorem d_N_leave_50 : decode b_N_leave 50 = .ok (.aload_n 0, 1) := by decide +kernel
theorem d_N_leave_51 : decode b_N_leave 51 = .ok (.iload_n 3, 1) := by decide +kernel
theorem d_N_leave_52 : decode b_N_leave 52 = .ok (.sipush 16383, 3) := by decide +kernel
theorem d_N_leave_55 : decode b_N_leave 55 = .ok (.iand, 1) := by decide +kernel
theorem d_N_leave_56 : decode b_N_leave 56 = .ok (.iload_n 2, 1) := by decide +kernel
theorem d_N_leave_57 : decode b_N_leave 57 = .ok (.iconst 1, 1) := by decide +kernel
theorem d_N_leave_58 : decode b_N_leave 58 = .ok (.isub, 1) := by decide +kernel
theorem d_N_leave_59 : decode b_N_leave 59 = .ok (.invokevirtual 84, 3) := by decide +kernel
theorem d_N_leave_62 : decode b_N_leave 62 = .ok (.return_, 1) := by decide +kernel
theorem d_N_forget_0 : decode b_N_forget 0 = .ok (.aload_n 0, 1) := by decide +kernel
theorem d_N_forget_1 : decode b_N_forget 1 = .ok (.iload_n 1, 1) := by decide +kernel
theorem d_N_forget_2 : decode b_N_forget 2 = .ok (.invokevirtual 90, 3) := by decide +kernel
theorem d_N_forget_5 : decode b_N_forget 5 = .ok (.aload_n 0, 1) := by decide +kernel
theorem d_N_forget_6 : decode b_N_forget 6 = .ok (.getfield 11, 3) := by decide +kernel
theorem d_N_forget_9 : decode b_N_forget 9 = .ok (.iload_n 1, 1) := by decide +kernel
theorem d_N_forget_10 : decode b_N_forget 10 = .ok (.iaload, 1) := by decide +kernel
theorem d_N_forget_11 : decode b_N_forget 11 = .ok (.bipush 28, 2) := by decide +kernel
theorem d_N_forget_13 : decode b_N_forget 13 = .ok (.iushr, 1) := by decide +kernel
theorem d_N_forget_14 : decode b_N_forget 14 = .ok (.istore_n 2, 1) := by decide +kernel
theorem d_N_forget_15 : decode b_N_forget 15 = .ok (.aload_n 0, 1) := by decide +kernel
theorem d_N_forget_16 : decode b_N_forget 16 = .ok (.getfield 23, 3) := by decide +kernel
theorem d_N_forget_19 : decode b_N_forget 19 = .ok (.iload_n 2, 1) := by decide +kernel
theorem d_N_forget_20 : decode b_N_forget 20 = .ok (.iaload, 1) := by decide +kernel
theorem d_N_forget_21 : decode b_N_forget 21 = .ok (.iconst 1, 1) := by decide +kernel
theorem d_N_forget_22 : decode b_N_forget 22 = .ok (.isub, 1) := by decide +kernel
theorem d_N_forget_23 : decode b_N_forget 23 = .ok (.istore_n 3, 1) := by decide +kernel
theorem d_N_forget_24 : decode b_N_forget 24 = .ok (.aload_n 0, 1) := by decide +kernel
theorem d_N_forget_25 : decode b_N_forget 25 = .ok (.getfield 20, 3) := by decide +kernel
theorem d_N_forget_28 : decode b_N_forget 28 = .ok (.iload_n 2, 1) := by decide +kernel
theorem d_N_forget_29 : decode b_N_forget 29 = .ok (.aaload, 1) := by decide +kernel
theorem d_N_forget_30 : decode b_N_forget 30 = .ok (.iload_n 3, 1) := by decide +kernel
theorem d_N_forget_31 : decode b_N_forget 31 = .ok (.iaload, 1) := by decide +kernel
theorem d_N_forget_32 : decode b_N_forget 32 = .ok (.istore 4, 2) := by decide +kernel
theorem d_N_forget_34 : decode b_N_forget 34 = .ok (.aload_n 0, 1) := by decide +kernel
theorem d_N_forget_35 : decode b_N_forget 35 = .ok (.getfield 20, 3) := by decide +kernel
theorem d_N_forget_38 : decode b_N_forget 38 = .ok (.iload_n 2, 1) := by decide +kernel
theorem d_N_forget_39 : decode b_N_forget 39 = .ok (.aaload, 1) := by decide +kernel
theorem d_N_forget_40 : decode b_N_forget 40 = .ok (.aload_n 0, 1) := by decide +kernel
theorem d_N_forget_41 : decode b_N_forget 41 = .ok (.getfield 26, 3) := by decide +kernel
theorem d_N_forget_44 : decode b_N_forget 44 = .ok (.iload_n 1, 1) := by decide +kernel
theorem d_N_forget_45 : decode b_N_forget 45 = .ok (.iaload, 1) := by decide +kernel
theorem d_N_forget_46 : decode b_N_forget 46 = .ok (.iload 4, 2) := by decide +kernel
theorem d_N_forget_48 : decode b_N_forget 48 = .ok (.iastore, 1) := by decide +kernel
theorem d_N_forget_49 : decode b_N_forget 49 = .ok (.aload_n 0, 1) := by decide +kernel
theorem d_N_forget_50 : decode b_N_forget 50 = .ok (.getfield 26, 3) := by decide +kernel
theorem d_N_forget_53 : decode b_N_forget 53 = .ok (.iload 4, 2) := by decide +kernel
theorem d_N_forget_55 : decode b_N_forget 55 = .ok (.aload_n 0, 1) := by decide +kernel
theorem d_N_forget_56 : decode b_N_forget 56 = .ok (.getfield 26, 3) := by decide +kernel
theorem d_N_forget_59 : decode b_N_forget 59 = .ok (.iload_n 1, 1) := by decide +kernel
theorem d_N_forget_60 : decode b_N_forget 60 = .ok (.iaload, 1) := by decide +kernel
theorem d_N_forget_61 : decode b_N_forget 61 = .ok (.iastore, 1) := by decide +kernel
theorem d_N_forget_62 : decode b_N_forget 62 = .ok (.aload_n 0, 1) := by decide +kernel
theorem d_N_forget_63 : decode b_N_forget 63 = .ok (.getfield 23, 3) := by decide +kernel
theorem d_N_forget_66 : decode b_N_forget 66 = .ok (.iload_n 2, 1) := by decide +kernel
theorem d_N_forget_67 : decode b_N_forget 67 = .ok (.iload_n 3, 1) := by decide +kernel
theorem d_N_forget_68 : decode b_N_forget 68 = .ok (.iastore, 1) := by decide +kernel
theorem d_N_forget_69 : decode b_N_forget 69 = .ok (.aload_n 0, 1) := by decide +kernel
theorem d_N_forget_70 : decode b_N_forget 70 = .ok (.dup, 1) := by decide +kernel
theorem d_N_forget_71 : decode b_N_forget 71 = .ok (.getfield 51, 3) := by decide +kernel
theorem d_N_forget_74 : decode b_N_forget 74 = .ok (.iconst 1, 1) := by decide +kernel
theorem d_N_forget_75 : decode b_N_forget 75 = .ok (.isub, 1) := by decide +kernel
theorem d_N_forget_76 : decode b_N_forget 76 = .ok (.putfield 51, 3) := by decide +kernel
theorem d_N_forget_79 : decode b_N_forget 79 = .ok (.aload_n 0, 1) := by decide +kernel
theorem d_N_forget_80 : decode b_N_forget 80 = .ok (.getfield 11, 3) := by decide +kernel
theorem d_N_forget_83 : decode b_N_forget 83 = .ok (.iload_n 1, 1) := by decide +kernel
theorem d_N_forget_84 : decode b_N_forget 84 = .ok (.iconst 0, 1) := by decide +kernel
theorem d_N_forget_85 : decode b_N_forget 85 = .ok (.iastore, 1) := by decide +kernel
theorem d_N_forget_86 : decode b_N_forget 86 = .ok (.aload_n 0, 1) := by decide +kernel
theorem d_N_forget_87 : decode b_N_forget 87 = .ok (.getfield 29, 3) := by decide +kernel
theorem d_N_forget_90 : decode b_N_forget 90 = .ok (.iload_n 1, 1) := by decide +kernel
theorem d_N_forget_91 : decode b_N_forget 91 = .ok (.aload_n 0, 1) := by decide +kernel
theorem d_N_forget_92 : decode b_N_forget 92 = .ok (.getfield 45, 3) := by decide +kernel
theorem d_N_forget_95 : decode b_N_forget 95 = .ok (.iastore, 1) := by decide +kernel
theorem d_N_forget_96 : decode b_N_forget 96 = .ok (.aload_n 0, 1) := by decide +kernel
theorem d_N_forget_97 : decode b_N_forget 97 = .ok (.iload_n 1, 1) := by decide +kernel
theorem d_N_forget_98 : decode b_N_forget 98 = .ok (.putfield 45, 3) := by decide +kernel
theorem d_N_forget_101 : decode b_N_forget 101 = .ok (.return_, 1) := by decide +kernel
theorem d_N_sizeFrom_0 : decode b_N_sizeFrom 0 = .ok (.aload_n 0, 1) := by decide +kernel
theorem d_N_sizeFrom_1 : decode b_N_sizeFrom 1 = .ok (.dup, 1) := by decide +kernel
theorem d_N_sizeFrom_2 : decode b_N_sizeFrom 2 = .ok (.getfield 57, 3) := by decide +kernel
theorem d_N_sizeFrom_5 : decode b_N_sizeFrom 5 = .ok (.iconst 1, 1) := by decide +kernel
theorem d_N_sizeFrom_6 : decode b_N_sizeFrom 6 = .ok (.iadd, 1) := by decide +kernel
theorem d_N_sizeFrom_7 : decode b_N_sizeFrom 7 = .ok (.putfield 57, 3) := by decide +kernel
theorem d_N_sizeFrom_10 : decode b_N_sizeFrom 10 = .ok (.aload_n 0, 1) := by decide +kernel
theorem d_N_sizeFrom_11 : decode b_N_sizeFrom 11 = .ok (.iload_n 1, 1) := by decide +kernel
theorem d_N_sizeFrom_12 : decode b_N_sizeFrom 12 = .ok (.bipush 10, 2) := by decide +kernel
theorem d_N_sizeFrom_14 : decode b_N_sizeFrom 14 = .ok (.invokevirtual 93, 3) := by decide +kernel
theorem d_N_sizeFrom_17 : decode b_N_sizeFrom 17 = .ok (.ireturn, 1) := by decide +kernel
theorem d_N_unseenFrom_0 : decode b_N_unseenFrom 0 = .ok (.iload_n 1, 1) := by decide +kernel
theorem d_N_unseenFrom_1 : decode b_N_unseenFrom 1 = .ok (.iconst 2, 1) := by decide +kernel
theorem d_N_unseenFrom_2 : decode b_N_unseenFrom 2 = .ok (.if_icmp .lt 20, 3) := by decide +kernel
theorem d_N_unseenFrom_5 : decode b_N_unseenFrom 5 = .ok (.iload_n 2, 1) := by decide +kernel
theorem d_N_unseenFrom_6 : decode b_N_unseenFrom 6 = .ok (.ifCond .eq 16, 3) := by decide +kernel
theorem d_N_unseenFrom_9 : decode b_N_unseenFrom 9 = .ok (.aload_n 0, 1) := by decide +kernel
theorem d_N_unseenFrom_10 : decode b_N_unseenFrom 10 = .ok (.getfield 54, 3) := by decide +kernel
theorem d_N_unseenFrom_13 : decode b_N_unseenFrom 13 = .ok (.iload_n 1, 1) := by decide +kernel
theorem d_N_unseenFrom_14 : decode b_N_unseenFrom 14 = .ok (.iaload, 1) := by decide +kernel
theorem d_N_unseenFrom_15 : decode b_N_unseenFrom 15 = .ok (.aload_n 0, 1) := by decide +kernel
theorem d_N_unseenFrom_16 : decode b_N_unseenFrom 16 = .ok (.getfield 57, 3) := by decide +kernel
theorem d_N_unseenFrom_19 : decode b_N_unseenFrom 19 = .ok (.if_icmp .ne 5, 3) := by decide +kernel
theorem d_N_unseenFrom_22 : decode b_N_unseenFrom 22 = .ok (.iconst 0, 1) := by decide +kernel
theorem d_N_unseenFrom_23 : decode b_N_unseenFrom 23 = .ok (.ireturn, 1) := by decide +kernel
theorem d_N_unseenFrom_24 : decode b_N_unseenFrom 24 = .ok (.aload_n 0, 1) := by decide +kernel
theorem d_N_unseenFrom_25 : decode b_N_unseenFrom 25 = .ok (.getfield 54, 3) := by decide +kernel
theorem d_N_unseenFrom_28 : decode b_N_unseenFrom 28 = .ok (.iload_n 1, 1) := by decide +kernel
theorem d_N_unseenFrom_29 : decode b_N_unseenFrom 29 = .ok (.aload_n 0, 1) := by decide +kernel
theorem d_N_unseenFrom_30 : decode b_N_unseenFrom 30 = .ok (.getfield 57, 3) := by decide +kernel
theorem d_N_unseenFrom_33 : decode b_N_unseenFrom 33 = .ok (.iastore, 1) := by decide +kernel
theorem d_N_unseenFrom_34 : decode b_N_unseenFrom 34 = .ok (.aload_n 0, 1) := by decide +kernel
theorem d_N_unseenFrom_35 : decode b_N_unseenFrom 35 = .ok (.getfield 11, 3) := by decide +kernel
theorem d_N_unseenFrom_38 : decode b_N_unseenFrom 38 = .ok (.iload_n 1, 1) := by decide +kernel
theorem d_N_unseenFrom_39 : decode b_N_unseenFrom 39 = .ok (.iaload, 1) := by decide +kernel
theorem d_N_unseenFrom_40 : decode b_N_unseenFrom 40 = .ok (.istore_n 3, 1) := by decide +kernel
theorem d_N_unseenFrom_41 : decode b_N_unseenFrom 41 = .ok (.iconst 1, 1) := by decide +kernel
theorem d_N_unseenFrom_42 : decode b_N_unseenFrom 42 = .ok (.aload_n 0, 1) := by decide +kernel
theorem d_N_unseenFrom_43 : decode b_N_unseenFrom 43 = .ok (.iload_n 3, 1) := by decide +kernel
theorem d_N_unseenFrom_44 : decode b_N_unseenFrom 44 = .ok (.bipush 14, 2) := by decide +kernel
theorem d_N_unseenFrom_46 : decode b_N_unseenFrom 46 = .ok (.iushr, 1) := by decide +kernel
theorem d_N_unseenFrom_47 : decode b_N_unseenFrom 47 = .ok (.sipush 16383, 3) := by decide +kernel
theorem d_N_unseenFrom_50 : decode b_N_unseenFrom 50 = .ok (.iand, 1) := by decide +kernel
theorem d_N_unseenFrom_51 : decode b_N_unseenFrom 51 = .ok (.iload_n 2, 1) := by decide +kernel
theorem d_N_unseenFrom_52 : decode b_N_unseenFrom 52 = .ok (.iconst 1, 1) := by decide +kernel
theorem d_N_unseenFrom_53 : decode b_N_unseenFrom 53 = .ok (.isub, 1) := by decide +kernel
theorem d_N_unseenFrom_54 : decode b_N_unseenFrom 54 = .ok (.invokevirtual 93, 3) := by decide +kernel
theorem d_N_unseenFrom_57 : decode b_N_unseenFrom 57 = .ok (.iadd, 1) := by decide +kernel
theorem d_N_unseenFrom_58 : decode b_N_unseenFrom 58 = .ok (.aload_n 0, 1) := by decide +kernel
theorem d_N_unseenFrom_59 : decode b_N_unseenFrom 59 = .ok (.iload_n 3, 1) := by decide +kernel
theorem d_N_unseenFrom_60 : decode b_N_unseenFrom 60 = .ok (.sipush 16383, 3) := by decide +kernel
theorem d_N_unseenFrom_63 : decode b_N_unseenFrom 63 = .ok (.iand, 1) := by decide +kernel
theorem d_N_unseenFrom_64 : decode b_N_unseenFrom 64 = .ok (.iload_n 2, 1) := by decide +kernel
theorem d_N_unseenFrom_65 : decode b_N_unseenFrom 65 = .ok (.iconst 1, 1) := by decide +kernel
theorem d_N_unseenFrom_66 : decode b_N_unseenFrom 66 = .ok (.isub, 1) := by decide +kernel
theorem d_N_unseenFrom_67 : decode b_N_unseenFrom 67 = .ok (.invokevirtual 93, 3) := by decide +kernel
theorem d_N_unseenFrom_70 : decode b_N_unseenFrom 70 = .ok (.iadd, 1) := by decide +kernel
theorem d_N_unseenFrom_71 : decode b_N_unseenFrom 71 = .ok (.ireturn, 1) := by decide +kernel
theorem d_N_questionFrom_0 : decode b_N_questionFrom 0 = .ok (.iload_n 1, 1) := by decide +kernel
theorem d_N_questionFrom_1 : decode b_N_questionFrom 1 = .ok (.istore 4, 2) := by decide +kernel
theorem d_N_questionFrom_3 : decode b_N_questionFrom 3 = .ok (.iconst 0, 1) := by decide +kernel
theorem d_N_questionFrom_4 : decode b_N_questionFrom 4 = .ok (.istore 5, 2) := by decide +kernel
theorem d_N_questionFrom_6 : decode b_N_questionFrom 6 = .ok (.iload 5, 2) := by decide +kernel
theorem d_N_questionFrom_8 : decode b_N_questionFrom 8 = .ok (.bipush 10, 2) := by decide +kernel
theorem d_N_questionFrom_10 : decode b_N_questionFrom 10 = .ok (.if_icmp .ge 70, 3) := by decide +kernel
theorem d_N_questionFrom_13 : decode b_N_questionFrom 13 = .ok (.iload 4, 2) := by decide +kernel
theorem d_N_questionFrom_15 : decode b_N_questionFrom 15 = .ok (.iconst 2, 1) := by decide +kernel
theorem d_N_questionFrom_16 : decode b_N_questionFrom 16 = .ok (.if_icmp .lt 64, 3) := by decide +kernel
theorem d_N_questionFrom_19 : decode b_N_questionFrom 19 = .ok (.aload_n 0, 1) := by decide +kernel
theorem d_N_questionFrom_20 : decode b_N_questionFrom 20 = .ok (.getfield 11, 3) := by decide +kernel
theorem d_N_questionFrom_23 : decode b_N_questionFrom 23 = .ok (.iload 4, 2) := by decide +kernel
theorem d_N_questionFrom_25 : decode b_N_questionFrom 25 = .ok (.iaload, 1) := by decide +kernel
theorem d_N_questionFrom_26 : decode b_N_questionFrom 26 = .ok (.istore 6, 2) := by decide +kernel
theorem d_N_questionFrom_28 : decode b_N_questionFrom 28 = .ok (.iload 6, 2) := by decide +kernel
theorem d_N_questionFrom_30 : decode b_N_questionFrom 30 = .ok (.bipush 28, 2) := by decide +kernel
theorem d_N_questionFrom_32 : decode b_N_questionFrom 32 = .ok (.iushr, 1) := by decide +kernel
theorem d_N_questionFrom_33 : decode b_N_questionFrom 33 = .ok (.istore 7, 2) := by decide +kernel
theorem d_N_questionFrom_35 : decode b_N_questionFrom 35 = .ok (.iload 5, 2) := by decide +kernel
theorem d_N_questionFrom_37 : decode b_N_questionFrom 37 = .ok (.iload_n 3, 1) := by decide +kernel
theorem d_N_questionFrom_38 : decode b_N_questionFrom 38 = .ok (.if_icmp .ne 6, 3) := by decide +kernel
theorem d_N_questionFrom_41 : decode b_N_questionFrom 41 = .ok (.iload 7, 2) := by decide +kernel
theorem d_N_questionFrom_43 : decode b_N_questionFrom 43 = .ok (.ireturn, 1) := by decide +kernel
theorem d_N_questionFrom_44 : decode b_N_questionFrom 44 = .ok (.iload_n 2, 1) := by decide +kernel
theorem d_N_questionFrom_45 : decode b_N_questionFrom 45 = .ok (.iload 7, 2) := by decide +kernel
theorem d_N_questionFrom_47 : decode b_N_questionFrom 47 = .ok (.ishr, 1) := by decide +kernel
theorem d_N_questionFrom_48 : decode b_N_questionFrom 48 = .ok (.iconst 1, 1) := by decide +kernel
theorem d_N_questionFrom_49 : decode b_N_questionFrom 49 = .ok (.iand, 1) := by decide +kernel
theorem d_N_questionFrom_50 : decode b_N_questionFrom 50 = .ok (.iconst 1, 1) := by decide +kernel
theorem d_N_questionFrom_51 : decode b_N_questionFrom 51 = .ok (.if_icmp .ne 12, 3) := by decide +kernel
theorem d_N_questionFrom_54 : decode b_N_questionFrom 54 = .ok (.iload 6, 2) := by decide +kernel
theorem d_N_questionFrom_56 : decode b_N_questionFrom 56 = .ok (.sipush 16383, 3) := by decide +kernel
theorem d_N_questionFrom_59 : decode b_N_questionFrom 59 = .ok (.iand, 1) := by decide +kernel
theorem d_N_questionFrom_60 : decode b_N_questionFrom 60 = .ok (.goto 12, 3) := by decide +kernel
theorem d_N_questionFrom_63 : decode b_N_questionFrom 63 = .ok (.iload 6, 2) := by decide +kernel
theorem d_N_questionFrom_65 : decode b_N_questionFrom 65 = .ok (.bipush 14, 2) := by decide +kernel
theorem d_N_questionFrom_67 : decode b_N_questionFrom 67 = .ok (.iushr, 1) := by decide +kernel
theorem d_N_questionFrom_68 : decode b_N_questionFrom 68 = .ok (.sipush 16383, 3) := by decide +kernel
theorem d_N_questionFrom_71 : decode b_N_questionFrom 71 = .ok (.iand, 1) := by decide +kernel
theorem d_N_questionFrom_72 : decode b_N_questionFrom 72 = .ok (.istore 4, 2) := by decide +kernel
theorem d_N_questionFrom_74 : decode b_N_questionFrom 74 = .ok (.iinc 5 1, 3) := by decide +kernel
theorem d_N_questionFrom_77 : decode b_N_questionFrom 77 = .ok (.goto (-71), 3) := by decide +kernel
theorem d_N_questionFrom_80 : decode b_N_questionFrom 80 = .ok (.iconst (-1), 1) := by decide +kernel
theorem d_N_questionFrom_81 : decode b_N_questionFrom 81 = .ok (.ireturn, 1) := by decide +kernel
theorem d_N_change_0 : decode b_N_change 0 = .ok (.aload_n 0, 1) := by decide +kernel
theorem d_N_change_1 : decode b_N_change 1 = .ok (.iconst 2, 1) := by decide +kernel
theorem d_N_change_2 : decode b_N_change 2 = .ok (.aload_n 0, 1) := by decide +kernel
theorem d_N_change_3 : decode b_N_change 3 = .ok (.getfield 51, 3) := by decide +kernel
theorem d_N_change_6 : decode b_N_change 6 = .ok (.iadd, 1) := by decide +kernel
theorem d_N_change_7 : decode b_N_change 7 = .ok (.iconst 2, 1) := by decide +kernel
theorem d_N_change_8 : decode b_N_change 8 = .ok (.aload_n 0, 1) := by decide +kernel
theorem d_N_change_9 : decode b_N_change 9 = .ok (.getfield 23, 3) := by decide +kernel
theorem d_N_change_12 : decode b_N_change 12 = .ok (.iload_n 1, 1) := by decide +kernel
theorem d_N_change_13 : decode b_N_change 13 = .ok (.iaload, 1) := by decide +kernel
theorem d_N_change_14 : decode b_N_change 14 = .ok (.imul, 1) := by decide +kernel
theorem d_N_change_15 : decode b_N_change 15 = .ok (.iadd, 1) := by decide +kernel
theorem d_N_change_16 : decode b_N_change 16 = .ok (.invokevirtual 97, 3) := by decide +kernel
theorem d_N_change_19 : decode b_N_change 19 = .ok (.aload_n 0, 1) := by decide +kernel
theorem d_N_change_20 : decode b_N_change 20 = .ok (.iload_n 1, 1) := by decide +kernel
theorem d_N_change_21 : decode b_N_change 21 = .ok (.iload_n 2, 1) := by decide +kernel
theorem d_N_change_22 : decode b_N_change 22 = .ok (.invokevirtual 100, 3) := by decide +kernel
theorem d_N_change_25 : decode b_N_change 25 = .ok (.istore_n 3, 1) := by decide +kernel
theorem d_N_change_26 : decode b_N_change 26 = .ok (.iconst 0, 1) := by decide +kernel
theorem d_N_change_27 : decode b_N_change 27 = .ok (.istore 4, 2) := by decide +kernel
theorem d_N_change_29 : decode b_N_change 29 = .ok (.iload_n 3, 1) := by decide +kernel
theorem d_N_change_30 : decode b_N_change 30 = .ok (.ifCond .eq 35, 3) := by decide +kernel
theorem d_N_change_33 : decode b_N_change 33 = .ok (.iload 4, 2) := by decide +kernel
theorem d_N_change_35 : decode b_N_change 35 = .ok (.sipush 16384, 3) := by decide +kernel
theorem d_N_change_38 : decode b_N_change 38 = .ok (.if_icmp .ge 27, 3) := by decide +kernel
theorem d_N_change_41 : decode b_N_change 41 = .ok (.aload_n 0, 1) := by decide +kernel
theorem d_N_change_42 : decode b_N_change 42 = .ok (.getfield 29, 3) := by decide +kernel
theorem d_N_change_45 : decode b_N_change 45 = .ok (.iload_n 3, 1) := by decide +kernel
theorem d_N_change_46 : decode b_N_change 46 = .ok (.iaload, 1) := by decide +kernel
theorem d_N_change_47 : decode b_N_change 47 = .ok (.istore 5, 2) := by decide +kernel
theorem d_N_change_49 : decode b_N_change 49 = .ok (.aload_n 0, 1) := by decide +kernel
theorem d_N_change_50 : decode b_N_change 50 = .ok (.iload_n 3, 1) := by decide +kernel
theorem d_N_change_51 : decode b_N_change 51 = .ok (.iload_n 1, 1) := by decide +kernel
theorem d_N_change_52 : decode b_N_change 52 = .ok (.iload_n 2, 1) := by decide +kernel
theorem d_N_change_53 : decode b_N_change 53 = .ok (.invokevirtual 103, 3) := by decide +kernel
theorem d_N_change_56 : decode b_N_change 56 = .ok (.iload 5, 2) := by decide +kernel
theorem d_N_change_58 : decode b_N_change 58 = .ok (.istore_n 3, 1) := by decide +kernel
theorem d_N_change_59 : decode b_N_change 59 = .ok (.iinc 4 1, 3) := by decide +kernel
theorem d_N_change_62 : decode b_N_change 62 = .ok (.goto (-33), 3) := by decide +kernel
theorem d_N_change_65 : decode b_N_change 65 = .ok (.return_, 1) := by decide +kernel
theorem d_N_takeThoseBefore_0 : decode b_N_takeThoseBefore 0 = .ok (.aload_n 0, 1) := by decide +kernel
theorem d_N_takeThoseBefore_1 : decode b_N_takeThoseBefore 1 = .ok (.getfield 11, 3) := by decide +kernel
theorem d_N_takeThoseBefore_4 : decode b_N_takeThoseBefore 4 = .ok (.astore_n 3, 1) := by decide +kernel
theorem d_N_takeThoseBefore_5 : decode b_N_takeThoseBefore 5 = .ok (.aload_n 0, 1) := by decide +kernel
theorem d_N_takeThoseBefore_6 : decode b_N_takeThoseBefore 6 = .ok (.getfield 20, 3) := by decide +kernel
theorem d_N_takeThoseBefore_9 : decode b_N_takeThoseBefore 9 = .ok (.iload_n 1, 1) := by decide +kernel
theorem d_N_takeThoseBefore_10 : decode b_N_takeThoseBefore 10 = .ok (.aaload, 1) := by decide +kernel
theorem d_N_takeThoseBefore_11 : decode b_N_takeThoseBefore 11 = .ok (.astore 4, 2) := by decide +kernel
theorem d_N_takeThoseBefore_13 : decode b_N_takeThoseBefore 13 = .ok (.aload_n 0, 1) := by decide +kernel
theorem d_N_takeThoseBefore_14 : decode b_N_takeThoseBefore 14 = .ok (.getfield 23, 3) := by decide +kernel
theorem d_N_takeThoseBefore_17 : decode b_N_takeThoseBefore 17 = .ok (.iload_n 1, 1) := by decide +kernel
theorem d_N_takeThoseBefore_18 : decode b_N_takeThoseBefore 18 = .ok (.iaload, 1) := by decide +kernel
theorem d_N_takeThoseBefore_19 : decode b_N_takeThoseBefore 19 = .ok (.istore 5, 2) := by decide +kernel
theorem d_N_takeThoseBefore_21 : decode b_N_takeThoseBefore 21 = .ok (.iconst 0, 1) := by decide +kernel
theorem d_N_takeThoseBefore_22 : decode b_N_takeThoseBefore 22 = .ok (.istore 6, 2) := by decide +kernel
theorem d_N_takeThoseBefore_24 : decode b_N_takeThoseBefore 24 = .ok (.iconst 0, 1) := by decide +kernel
theorem d_N_takeThoseBefore_25 : decode b_N_takeThoseBefore 25 = .ok (.istore 7, 2) := by decide +kernel
theorem d_N_takeThoseBefore_27 : decode b_N_takeThoseBefore 27 = .ok (.iconst 0, 1) := by decide +kernel
theorem d_N_takeThoseBefore_28 : decode b_N_takeThoseBefore 28 = .ok (.istore 8, 2) := by decide +kernel
theorem d_N_takeThoseBefore_30 : decode b_N_takeThoseBefore 30 = .ok (.iload 8, 2) := by decide +kernel
theorem d_N_takeThoseBefore_32 : decode b_N_takeThoseBefore 32 = .ok (.iload 5, 2) := by decide +kernel
theorem d_N_takeThoseBefore_34 : decode b_N_takeThoseBefore 34 = .ok (.if_icmp .ge 96, 3) := by decide +kernel
theorem d_N_takeThoseBefore_37 : decode b_N_takeThoseBefore 37 = .ok (.aload 4, 2) := by decide +kernel
theorem d_N_takeThoseBefore_39 : decode b_N_takeThoseBefore 39 = .ok (.iload 8, 2) := by decide +kernel
theorem d_N_takeThoseBefore_41 : decode b_N_takeThoseBefore 41 = .ok (.iaload, 1) := by decide +kernel
theorem d_N_takeThoseBefore_42 : decode b_N_takeThoseBefore 42 = .ok (.istore 9, 2) := by decide +kernel
theorem d_N_takeThoseBefore_44 : decode b_N_takeThoseBefore 44 = .ok (.aload_n 3, 1) := by decide +kernel
theorem d_N_takeThoseBefore_45 : decode b_N_takeThoseBefore 45 = .ok (.iload 9, 2) := by decide +kernel
theorem d_N_takeThoseBefore_47 : decode b_N_takeThoseBefore 47 = .ok (.iaload, 1) := by decide +kernel
theorem d_N_takeThoseBefore_48 : decode b_N_takeThoseBefore 48 = .ok (.istore 10, 2) := by decide +kernel
theorem d_N_takeThoseBefore_50 : decode b_N_takeThoseBefore 50 = .ok (.aload_n 3, 1) := by decide +kernel
theorem d_N_takeThoseBefore_51 : decode b_N_takeThoseBefore 51 = .ok (.iload 10, 2) := by decide +kernel
theorem d_N_takeThoseBefore_53 : decode b_N_takeThoseBefore 53 = .ok (.sipush 16383, 3) := by decide +kernel
theorem d_N_takeThoseBefore_56 : decode b_N_takeThoseBefore 56 = .ok (.iand, 1) := by decide +kernel
theorem d_N_takeThoseBefore_57 : decode b_N_takeThoseBefore 57 = .ok (.iaload, 1) := by decide +kernel
theorem d_N_takeThoseBefore_58 : decode b_N_takeThoseBefore 58 = .ok (.bipush 28, 2) := by decide +kernel
theorem d_N_takeThoseBefore_60 : decode b_N_takeThoseBefore 60 = .ok (.iushr, 1) := by decide +kernel
theorem d_N_takeThoseBefore_61 : decode b_N_takeThoseBefore 61 = .ok (.iload_n 2, 1) := by decide +kernel
theorem d_N_takeThoseBefore_62 : decode b_N_takeThoseBefore 62 = .ok (.if_icmp .eq 43, 3) := by decide +kernel
theorem d_N_takeThoseBefore_65 : decode b_N_takeThoseBefore 65 = .ok (.aload_n 3, 1) := by decide +kernel
theorem d_N_takeThoseBefore_66 : decode b_N_takeThoseBefore 66 = .ok (.iload 10, 2) := by decide +kernel
theorem d_N_takeThoseBefore_68 : decode b_N_takeThoseBefore 68 = .ok (.bipush 14, 2) := by decide +kernel
theorem d_N_takeThoseBefore_70 : decode b_N_takeThoseBefore 70 = .ok (.iushr, 1) := by decide +kernel
theorem d_N_takeThoseBefore_71 : decode b_N_takeThoseBefore 71 = .ok (.sipush 16383, 3) := by decide +kernel
theorem d_N_takeThoseBefore_74 : decode b_N_takeThoseBefore 74 = .ok (.iand, 1) := by decide +kernel
theorem d_N_takeThoseBefore_75 : decode b_N_takeThoseBefore 75 = .ok (.iaload, 1) := by decide +kernel
theorem d_N_takeThoseBefore_76 : decode b_N_takeThoseBefore 76 = .ok (.bipush 28, 2) := by decide +kernel
theorem d_N_takeThoseBefore_78 : decode b_N_takeThoseBefore 78 = .ok (.iushr, 1) := by decide +kernel
theorem d_N_takeThoseBefore_79 : decode b_N_takeThoseBefore 79 = .ok (.iload_n 2, 1) := by decide +kernel
theorem d_N_takeThoseBefore_80 : decode b_N_takeThoseBefore 80 = .ok (.if_icmp .eq 25, 3) := by decide +kernel
theorem d_N_takeThoseBefore_83 : decode b_N_takeThoseBefore 83 = .ok (.aload 4, 2) := by decide +kernel
theorem d_N_takeThoseBefore_85 : decode b_N_takeThoseBefore 85 = .ok (.iload 6, 2) := by decide +kernel
theorem d_N_takeThoseBefore_87 : decode b_N_takeThoseBefore 87 = .ok (.iload 9, 2) := by decide +kernel
theorem d_N_takeThoseBefore_89 : decode b_N_takeThoseBefore 89 = .ok (.iastore, 1) := by decide +kernel
theorem d_N_takeThoseBefore_90 : decode b_N_takeThoseBefore 90 = .ok (.aload_n 0, 1) := by decide +kernel
theorem d_N_takeThoseBefore_91 : decode b_N_takeThoseBefore 91 = .ok (.getfield 26, 3) := by decide +kernel
theorem d_N_takeThoseBefore_94 : decode b_N_takeThoseBefore 94 = .ok (.iload 9, 2) := by decide +kernel
theorem d_N_takeThoseBefore_96 : decode b_N_takeThoseBefore 96 = .ok (.iload 6, 2) := by decide +kernel
theorem d_N_takeThoseBefore_98 : decode b_N_takeThoseBefore 98 = .ok (.iastore, 1) := by decide +kernel
theorem d_N_takeThoseBefore_99 : decode b_N_takeThoseBefore 99 = .ok (.iinc 6 1, 3) := by decide +kernel
theorem d_N_takeThoseBefore_102 : decode b_N_takeThoseBefore 102 = .ok (.goto 22, 3) := by decide +kernel
theorem d_N_takeThoseBefore_105 : decode b_N_takeThoseBefore 105 = .ok (.aload_n 0, 1) := by decide +kernel
theorem d_N_takeThoseBefore_106 : decode b_N_takeThoseBefore 106 = .ok (.iload 9, 2) := by decide +kernel
theorem d_N_takeThoseBefore_108 : decode b_N_takeThoseBefore 108 = .ok (.invokevirtual 90, 3) := by decide +kernel
theorem d_N_takeThoseBefore_111 : decode b_N_takeThoseBefore 111 = .ok (.aload_n 0, 1) := by decide +kernel
theorem d_N_takeThoseBefore_112 : decode b_N_takeThoseBefore 112 = .ok (.getfield 29, 3) := by decide +kernel
theorem d_N_takeThoseBefore_115 : decode b_N_takeThoseBefore 115 = .ok (.iload 9, 2) := by decide +kernel
theorem d_N_takeThoseBefore_117 : decode b_N_takeThoseBefore 117 = .ok (.iload 7, 2) := by decide +kernel
theorem d_N_takeThoseBefore_119 : decode b_N_takeThoseBefore 119 = .ok (.iastore, 1) := by decide +kernel
theorem d_N_takeThoseBefore_120 : decode b_N_takeThoseBefore 120 = .ok (.iload 9, 2) := by decide +kernel
theorem d_N_takeThoseBefore_122 : decode b_N_takeThoseBefore 122 = .ok (.istore 7, 2) := by decide +kernel
theorem d_N_takeThoseBefore_124 : decode b_N_takeThoseBefore 124 = .ok (.iinc 8 1, 3) := by decide +kernel
theorem d_N_takeThoseBefore_127 : decode b_N_takeThoseBefore 127 = .ok (.goto (-97), 3) := by decide +kernel
theorem d_N_takeThoseBefore_130 : decode b_N_takeThoseBefore 130 = .ok (.aload_n 0, 1) := by decide +kernel
theorem d_N_takeThoseBefore_131 : decode b_N_takeThoseBefore 131 = .ok (.getfield 23, 3) := by decide +kernel
theorem d_N_takeThoseBefore_134 : decode b_N_takeThoseBefore 134 = .ok (.iload_n 1, 1) := by decide +kernel
theorem d_N_takeThoseBefore_135 : decode b_N_takeThoseBefore 135 = .ok (.iload 6, 2) := by decide +kernel
theorem d_N_takeThoseBefore_137 : decode b_N_takeThoseBefore 137 = .ok (.iastore, 1) := by decide +kernel
theorem d_N_takeThoseBefore_138 : decode b_N_takeThoseBefore 138 = .ok (.iload 7, 2) := by decide +kernel
theorem d_N_takeThoseBefore_140 : decode b_N_takeThoseBefore 140 = .ok (.ireturn, 1) := by decide +kernel
theorem d_N_turn_0 : decode b_N_turn 0 = .ok (.aload_n 0, 1) := by decide +kernel
theorem d_N_turn_1 : decode b_N_turn 1 = .ok (.getfield 11, 3) := by decide +kernel
theorem d_N_turn_4 : decode b_N_turn 4 = .ok (.astore 4, 2) := by decide +kernel
theorem d_N_turn_6 : decode b_N_turn 6 = .ok (.aload_n 0, 1) := by decide +kernel
theorem d_N_turn_7 : decode b_N_turn 7 = .ok (.getfield 15, 3) := by decide +kernel
theorem d_N_turn_10 : decode b_N_turn 10 = .ok (.astore 5, 2) := by decide +kernel
theorem d_N_turn_12 : decode b_N_turn 12 = .ok (.aload 4, 2) := by decide +kernel
theorem d_N_turn_14 : decode b_N_turn 14 = .ok (.iload_n 1, 1) := by decide +kernel
theorem d_N_turn_15 : decode b_N_turn 15 = .ok (.iaload, 1) := by decide +kernel
theorem d_N_turn_16 : decode b_N_turn 16 = .ok (.bipush 14, 2) := by decide +kernel
theorem d_N_turn_18 : decode b_N_turn 18 = .ok (.iushr, 1) := by decide +kernel
theorem d_N_turn_19 : decode b_N_turn 19 = .ok (.sipush 16383, 3) := by decide +kernel
theorem d_N_turn_22 : decode b_N_turn 22 = .ok (.iand, 1) := by decide +kernel
theorem d_N_turn_23 : decode b_N_turn 23 = .ok (.istore 6, 2) := by decide +kernel
theorem d_N_turn_25 : decode b_N_turn 25 = .ok (.aload 4, 2) := by decide +kernel
theorem d_N_turn_27 : decode b_N_turn 27 = .ok (.iload_n 1, 1) := by decide +kernel
theorem d_N_turn_28 : decode b_N_turn 28 = .ok (.iaload, 1) := by decide +kernel
theorem d_N_turn_29 : decode b_N_turn 29 = .ok (.sipush 16383, 3) := by decide +kernel
theorem d_N_turn_32 : decode b_N_turn 32 = .ok (.iand, 1) := by decide +kernel
theorem d_N_turn_33 : decode b_N_turn 33 = .ok (.istore 7, 2) := by decide +kernel
theorem d_N_turn_35 : decode b_N_turn 35 = .ok (.aload 4, 2) := by decide +kernel
theorem d_N_turn_37 : decode b_N_turn 37 = .ok (.iload 6, 2) := by decide +kernel
theorem d_N_turn_39 : decode b_N_turn 39 = .ok (.iaload, 1) := by decide +kernel
theorem d_N_turn_40 : decode b_N_turn 40 = .ok (.istore 8, 2) := by decide +kernel
theorem d_N_turn_42 : decode b_N_turn 42 = .ok (.aload 4, 2) := by decide +kernel
theorem d_N_turn_44 : decode b_N_turn 44 = .ok (.iload 7, 2) := by decide +kernel
theorem d_N_turn_46 : decode b_N_turn 46 = .ok (.iaload, 1) := by decide +kernel
theorem d_N_turn_47 : decode b_N_turn 47 = .ok (.istore 9, 2) := by decide +kernel
theorem d_N_turn_49 : decode b_N_turn 49 = .ok (.iload 8, 2) := by decide +kernel
theorem d_N_turn_51 : decode b_N_turn 51 = .ok (.bipush 28, 2) := by decide +kernel
theorem d_N_turn_53 : decode b_N_turn 53 = .ok (.iushr, 1) := by decide +kernel
theorem d_N_turn_54 : decode b_N_turn 54 = .ok (.iload_n 3, 1) := by decide +kernel
theorem d_N_turn_55 : decode b_N_turn 55 = .ok (.if_icmp .eq 39, 3) := by decide +kernel
theorem d_N_turn_58 : decode b_N_turn 58 = .ok (.aload_n 0, 1) := by decide +kernel
theorem d_N_turn_59 : decode b_N_turn 59 = .ok (.iload_n 2, 1) := by decide +kernel
theorem d_N_turn_60 : decode b_N_turn 60 = .ok (.iload 6, 2) := by decide +kernel
theorem d_N_turn_62 : decode b_N_turn 62 = .ok (.iload 9, 2) := by decide +kernel
theorem d_N_turn_64 : decode b_N_turn 64 = .ok (.bipush 14, 2) := by decide +kernel
theorem d_N_turn_66 : decode b_N_turn 66 = .ok (.iushr, 1) := by decide +kernel
theorem d_N_turn_67 : decode b_N_turn 67 = .ok (.sipush 16383, 3) := by decide +kernel
theorem d_N_turn_70 : decode b_N_turn 70 = .ok (.iand, 1) := by decide +kernel
theorem d_N_turn_71 : decode b_N_turn 71 = .ok (.invokevirtual 107, 3) := by decide +kernel
theorem d_N_turn_74 : decode b_N_turn 74 = .ok (.istore 10, 2) := by decide +kernel
theorem d_N_turn_76 : decode b_N_turn 76 = .ok (.aload_n 0, 1) := by decide +kernel
theorem d_N_turn_77 : decode b_N_turn 77 = .ok (.iload_n 2, 1) := by decide +kernel
theorem d_N_turn_78 : decode b_N_turn 78 = .ok (.iload 6, 2) := by decide +kernel
theorem d_N_turn_80 : decode b_N_turn 80 = .ok (.iload 9, 2) := by decide +kernel
theorem d_N_turn_82 : decode b_N_turn 82 = .ok (.sipush 16383, 3) := by decide +kernel
theorem d_N_turn_85 : decode b_N_turn 85 = .ok (.iand, 1) := by decide +kernel
theorem d_N_turn_86 : decode b_N_turn 86 = .ok (.invokevirtual 107, 3) := by decide +kernel
theorem d_N_turn_89 : decode b_N_turn 89 = .ok (.istore 11, 2) := by decide +kernel
theorem d_N_turn_91 : decode b_N_turn 91 = .ok (.goto 92, 3) := by decide +kernel
theorem d_N_turn_94 : decode b_N_turn 94 = .ok (.iload 9, 2) := by decide +kernel
theorem d_N_turn_96 : decode b_N_turn 96 = .ok (.bipush 28, 2) := by decide +kernel
theorem d_N_turn_98 : decode b_N_turn 98 = .ok (.iushr, 1) := by decide +kernel
theorem d_N_turn_99 : decode b_N_turn 99 = .ok (.iload_n 3, 1) := by decide +kernel
theorem d_N_turn_100 : decode b_N_turn 100 = .ok (.if_icmp .eq 39, 3) := by decide +kernel
theorem d_N_turn_103 : decode b_N_turn 103 = .ok (.aload_n 0, 1) := by decide +kernel
theorem d_N_turn_104 : decode b_N_turn 104 = .ok (.iload_n 2, 1) := by decide +kernel
theorem d_N_turn_105 : decode b_N_turn 105 = .ok (.iload 8, 2) := by decide +kernel
theorem d_N_turn_107 : decode b_N_turn 107 = .ok (.bipush 14, 2) := by decide +kernel
theorem d_N_turn_109 : decode b_N_turn 109 = .ok (.iushr, 1) := by decide +kernel
theorem d_N_turn_110 : decode b_N_turn 110 = .ok (.sipush 16383, 3) := by decide +kernel
theorem d_N_turn_113 : decode b_N_turn 113 = .ok (.iand, 1) := by decide +kernel
theorem d_N_turn_114 : decode b_N_turn 114 = .ok (.iload 7, 2) := by decide +kernel
theorem d_N_turn_116 : decode b_N_turn 116 = .ok (.invokevirtual 107, 3) := by decide +kernel
theorem d_N_turn_119 : decode b_N_turn 119 = .ok (.istore 10, 2) := by decide +kernel
theorem d_N_turn_121 : decode b_N_turn 121 = .ok (.aload_n 0, 1) := by decide +kernel
theorem d_N_turn_122 : decode b_N_turn 122 = .ok (.iload_n 2, 1) := by decide +kernel
theorem d_N_turn_123 : decode b_N_turn 123 = .ok (.iload 8, 2) := by decide +kernel
theorem d_N_turn_125 : decode b_N_turn 125 = .ok (.sipush 16383, 3) := by decide +kernel
theorem d_N_turn_128 : decode b_N_turn 128 = .ok (.iand, 1) := by decide +kernel
theorem d_N_turn_129 : decode b_N_turn 129 = .ok (.iload 7, 2) := by decide +kernel
theorem d_N_turn_131 : decode b_N_turn 131 = .ok (.invokevirtual 107, 3) := by decide +kernel
theorem d_N_turn_134 : decode b_N_turn 134 = .ok (.istore 11, 2) := by decide +kernel
theorem d_N_turn_136 : decode b_N_turn 136 = .ok (.goto 47, 3) := by decide +kernel
theorem d_N_turn_139 : decode b_N_turn 139 = .ok (.aload_n 0, 1) := by decide +kernel
theorem d_N_turn_140 : decode b_N_turn 140 = .ok (.iload_n 2, 1) := by decide +kernel
theorem d_N_turn_141 : decode b_N_turn 141 = .ok (.iload 8, 2) := by decide +kernel
theorem d_N_turn_143 : decode b_N_turn 143 = .ok (.bipush 14, 2) := by decide +kernel
theorem d_N_turn_145 : decode b_N_turn 145 = .ok (.iushr, 1) := by decide +kernel
theorem d_N_turn_146 : decode b_N_turn 146 = .ok (.sipush 16383, 3) := by decide +kernel
theorem d_N_turn_149 : decode b_N_turn 149 = .ok (.iand, 1) := by decide +kernel
theorem d_N_turn_150 : decode b_N_turn 150 = .ok (.iload 9, 2) := by decide +kernel
theorem d_N_turn_152 : decode b_N_turn 152 = .ok (.bipush 14, 2) := by decide +kernel
theorem d_N_turn_154 : decode b_N_turn 154 = .ok (.iushr, 1) := by decide +kernel
theorem d_N_turn_155 : decode b_N_turn 155 = .ok (.sipush 16383, 3) := by decide +kernel
theorem d_N_turn_158 : decode b_N_turn 158 = .ok (.iand, 1) := by decide +kernel
theorem d_N_turn_159 : decode b_N_turn 159 = .ok (.invokevirtual 107, 3) := by decide +kernel
theorem d_N_turn_162 : decode b_N_turn 162 = .ok (.istore 10, 2) := by decide +kernel
theorem d_N_turn_164 : decode b_N_turn 164 = .ok (.aload_n 0, 1) := by decide +kernel
theorem d_N_turn_165 : decode b_N_turn 165 = .ok (.iload_n 2, 1) := by decide +kernel
theorem d_N_turn_166 : decode b_N_turn 166 = .ok (.iload 8, 2) := by decide +kernel
theorem d_N_turn_168 : decode b_N_turn 168 = .ok (.sipush 16383, 3) := by decide +kernel
theorem d_N_turn_171 : decode b_N_turn 171 = .ok (.iand, 1) := by decide +kernel
theorem d_N_turn_172 : decode b_N_turn 172 = .ok (.iload 9, 2) := by decide +kernel
theorem d_N_turn_174 : decode b_N_turn 174 = .ok (.sipush 16383, 3) := by decide +kernel
theorem d_N_turn_177 : decode b_N_turn 177 = .ok (.iand, 1) := by decide +kernel
theorem d_N_turn_178 : decode b_N_turn 178 = .ok (.invokevirtual 107, 3) := by decide +kernel
theorem d_N_turn_181 : decode b_N_turn 181 = .ok (.istore 11, 2) := by decide +kernel
theorem d_N_turn_183 : decode b_N_turn 183 = .ok (.aload 5, 2) := by decide +kernel
theorem d_N_turn_185 : decode b_N_turn 185 = .ok (.iload 10, 2) := by decide +kernel
theorem d_N_turn_187 : decode b_N_turn 187 = .ok (.dup2, 1) := by decide +kernel
theorem d_N_turn_188 : decode b_N_turn 188 = .ok (.iaload, 1) := by decide +kernel
theorem d_N_turn_189 : decode b_N_turn 189 = .ok (.iconst 1, 1) := by decide +kernel
theorem d_N_turn_190 : decode b_N_turn 190 = .ok (.iadd, 1) := by decide +kernel
theorem d_N_turn_191 : decode b_N_turn 191 = .ok (.iastore, 1) := by decide +kernel
theorem d_N_turn_192 : decode b_N_turn 192 = .ok (.aload 5, 2) := by decide +kernel
theorem d_N_turn_194 : decode b_N_turn 194 = .ok (.iload 11, 2) := by decide +kernel
theorem d_N_turn_196 : decode b_N_turn 196 = .ok (.dup2, 1) := by decide +kernel
theorem d_N_turn_197 : decode b_N_turn 197 = .ok (.iaload, 1) := by decide +kernel
theorem d_N_turn_198 : decode b_N_turn 198 = .ok (.iconst 1, 1) := by decide +kernel
theorem d_N_turn_199 : decode b_N_turn 199 = .ok (.iadd, 1) := by decide +kernel
theorem d_N_turn_200 : decode b_N_turn 200 = .ok (.iastore, 1) := by decide +kernel
theorem d_N_turn_201 : decode b_N_turn 201 = .ok (.aload 4, 2) := by decide +kernel
theorem d_N_turn_203 : decode b_N_turn 203 = .ok (.iload_n 1, 1) := by decide +kernel
theorem d_N_turn_204 : decode b_N_turn 204 = .ok (.iload_n 3, 1) := by decide +kernel
theorem d_N_turn_205 : decode b_N_turn 205 = .ok (.bipush 28, 2) := by decide +kernel
theorem d_N_turn_207 : decode b_N_turn 207 = .ok (.ishl, 1) := by decide +kernel
theorem d_N_turn_208 : decode b_N_turn 208 = .ok (.iload 10, 2) := by decide +kernel
theorem d_N_turn_210 : decode b_N_turn 210 = .ok (.bipush 14, 2) := by decide +kernel
theorem d_N_turn_212 : decode b_N_turn 212 = .ok (.ishl, 1) := by decide +kernel
theorem d_N_turn_213 : decode b_N_turn 213 = .ok (.ior, 1) := by decide +kernel
theorem d_N_turn_214 : decode b_N_turn 214 = .ok (.iload 11, 2) := by decide +kernel
theorem d_N_turn_216 : decode b_N_turn 216 = .ok (.ior, 1) := by decide +kernel
theorem d_N_turn_217 : decode b_N_turn 217 = .ok (.iastore, 1) := by decide +kernel
theorem d_N_turn_218 : decode b_N_turn 218 = .ok (.aload_n 0, 1) := by decide +kernel
theorem d_N_turn_219 : decode b_N_turn 219 = .ok (.iload_n 1, 1) := by decide +kernel
theorem d_N_turn_220 : decode b_N_turn 220 = .ok (.invokevirtual 66, 3) := by decide +kernel
theorem d_N_turn_223 : decode b_N_turn 223 = .ok (.aload_n 0, 1) := by decide +kernel
theorem d_N_turn_224 : decode b_N_turn 224 = .ok (.iload_n 1, 1) := by decide +kernel
theorem d_N_turn_225 : decode b_N_turn 225 = .ok (.iload_n 3, 1) := by decide +kernel
theorem d_N_turn_226 : decode b_N_turn 226 = .ok (.invokevirtual 80, 3) := by decide +kernel
theorem d_N_turn_229 : decode b_N_turn 229 = .ok (.aload 5, 2) := by decide +kernel
theorem d_N_turn_231 : decode b_N_turn 231 = .ok (.iload 6, 2) := by decide +kernel
theorem d_N_turn_233 : decode b_N_turn 233 = .ok (.dup2, 1) := by decide +kernel
theorem d_N_turn_234 : decode b_N_turn 234 = .ok (.iaload, 1) := by decide +kernel
theorem d_N_turn_235 : decode b_N_turn 235 = .ok (.iconst 1, 1) := by decide +kernel
theorem d_N_turn_236 : decode b_N_turn 236 = .ok (.isub, 1) := by decide +kernel
theorem d_N_turn_237 : decode b_N_turn 237 = .ok (.iastore, 1) := by decide +kernel
theorem d_N_turn_238 : decode b_N_turn 238 = .ok (.aload 5, 2) := by decide +kernel
theorem d_N_turn_240 : decode b_N_turn 240 = .ok (.iload 6, 2) := by decide +kernel
theorem d_N_turn_242 : decode b_N_turn 242 = .ok (.iaload, 1) := by decide +kernel
theorem d_N_turn_243 : decode b_N_turn 243 = .ok (.ifCond .ne 38, 3) := by decide +kernel
theorem d_N_turn_246 : decode b_N_turn 246 = .ok (.aload 5, 2) := by decide +kernel
theorem d_N_turn_248 : decode b_N_turn 248 = .ok (.iload 8, 2) := by decide +kernel
theorem d_N_turn_250 : decode b_N_turn 250 = .ok (.bipush 14, 2) := by decide +kernel
theorem d_N_turn_252 : decode b_N_turn 252 = .ok (.iushr, 1) := by decide +kernel
theorem d_N_turn_253 : decode b_N_turn 253 = .ok (.sipush 16383, 3) := by decide +kernel
theorem d_N_turn_256 : decode b_N_turn 256 = .ok (.iand, 1) := by decide +kernel
theorem d_N_turn_257 : decode b_N_turn 257 = .ok (.dup2, 1) := by decide +kernel
theorem d_N_turn_258 : decode b_N_turn 258 = .ok (.iaload, 1) := by decide +kernel
theorem d_N_turn_259 : decode b_N_turn 259 = .ok (.iconst 1, 1) := by decide +kernel
theorem d_N_turn_260 : decode b_N_turn 260 = .ok (.isub, 1) := by decide +kernel
theorem d_N_turn_261 : decode b_N_turn 261 = .ok (.iastore, 1) := by decide +kernel
theorem d_N_turn_262 : decode b_N_turn 262 = .ok (.aload 5, 2) := by decide +kernel
theorem d_N_turn_264 : decode b_N_turn 264 = .ok (.iload 8, 2) := by decide +kernel
theorem d_N_turn_266 : decode b_N_turn 266 = .ok (.sipush 16383, 3) := by decide +kernel
theorem d_N_turn_269 : decode b_N_turn 269 = .ok (.iand, 1) := by decide +kernel
theorem d_N_turn_270 : decode b_N_turn 270 = .ok (.dup2, 1) := by decide +kernel
theorem d_N_turn_271 : decode b_N_turn 271 = .ok (.iaload, 1) := by decide +kernel
theorem d_N_turn_272 : decode b_N_turn 272 = .ok (.iconst 1, 1) := by decide +kernel
theorem d_N_turn_273 : decode b_N_turn 273 = .ok (.isub, 1) := by decide +kernel
theorem d_N_turn_274 : decode b_N_turn 274 = .ok (.iastore, 1) := by decide +kernel
theorem d_N_turn_275 : decode b_N_turn 275 = .ok (.aload_n 0, 1) := by decide +kernel
theorem d_N_turn_276 : decode b_N_turn 276 = .ok (.iload 6, 2) := by decide +kernel
theorem d_N_turn_278 : decode b_N_turn 278 = .ok (.invokevirtual 87, 3) := by decide +kernel
theorem d_N_turn_281 : decode b_N_turn 281 = .ok (.aload 5, 2) := by decide +kernel
theorem d_N_turn_283 : decode b_N_turn 283 = .ok (.iload 7, 2) := by decide +kernel
theorem d_N_turn_285 : decode b_N_turn 285 = .ok (.dup2, 1) := by decide +kernel
theorem d_N_turn_286 : decode b_N_turn 286 = .ok (.iaload, 1) := by decide +kernel
theorem d_N_turn_287 : decode b_N_turn 287 = .ok (.iconst 1, 1) := by decide +kernel
theorem d_N_turn_288 : decode b_N_turn 288 = .ok (.isub, 1) := by decide +kernel
theorem d_N_turn_289 : decode b_N_turn 289 = .ok (.iastore, 1) := by decide +kernel
theorem d_N_turn_290 : decode b_N_turn 290 = .ok (.aload 5, 2) := by decide +kernel
theorem d_N_turn_292 : decode b_N_turn 292 = .ok (.iload 7, 2) := by decide +kernel
theorem d_N_turn_294 : decode b_N_turn 294 = .ok (.iaload, 1) := by decide +kernel
theorem d_N_turn_295 : decode b_N_turn 295 = .ok (.ifCond .ne 38, 3) := by decide +kernel
theorem d_N_turn_298 : decode b_N_turn 298 = .ok (.aload 5, 2) := by decide +kernel
theorem d_N_turn_300 : decode b_N_turn 300 = .ok (.iload 9, 2) := by decide +kernel
theorem d_N_turn_302 : decode b_N_turn 302 = .ok (.bipush 14, 2) := by decide +kernel
theorem d_N_turn_304 : decode b_N_turn 304 = .ok (.iushr, 1) := by decide +kernel
theorem d_N_turn_305 : decode b_N_turn 305 = .ok (.sipush 16383, 3) := by decide +kernel
theorem d_N_turn_308 : decode b_N_turn 308 = .ok (.iand, 1) := by decide +kernel
theorem d_N_turn_309 : decode b_N_turn 309 = .ok (.dup2, 1) := by decide +kernel
theorem d_N_turn_310 : decode b_N_turn 310 = .ok (.iaload, 1) := by decide +kernel
theorem d_N_turn_311 : decode b_N_turn 311 = .ok (.iconst 1, 1) := by decide +kernel
theorem d_N_turn_312 : decode b_N_turn 312 = .ok (.isub, 1) := by decide +kernel
theorem d_N_turn_313 : decode b_N_turn 313 = .ok (.iastore, 1) := by decide +kernel
theorem d_N_turn_314 : decode b_N_turn 314 = .ok (.aload 5, 2) := by decide +kernel
theorem d_N_turn_316 : decode b_N_turn 316 = .ok (.iload 9, 2) := by decide +kernel
theorem d_N_turn_318 : decode b_N_turn 318 = .ok (.sipush 16383, 3) := by decide +kernel
theorem d_N_turn_321 : decode b_N_turn 321 = .ok (.iand, 1) := by decide +kernel
theorem d_N_turn_322 : decode b_N_turn 322 = .ok (.dup2, 1) := by decide +kernel
theorem d_N_turn_323 : decode b_N_turn 323 = .ok (.iaload, 1) := by decide +kernel
theorem d_N_turn_324 : decode b_N_turn 324 = .ok (.iconst 1, 1) := by decide +kernel
theorem d_N_turn_325 : decode b_N_turn 325 = .ok (.isub, 1) := by decide +kernel
theorem d_N_turn_326 : decode b_N_turn 326 = .ok (.iastore, 1) := by decide +kernel
theorem d_N_turn_327 : decode b_N_turn 327 = .ok (.aload_n 0, 1) := by decide +kernel
theorem d_N_turn_328 : decode b_N_turn 328 = .ok (.iload 7, 2) := by decide +kernel
theorem d_N_turn_330 : decode b_N_turn 330 = .ok (.invokevirtual 87, 3) := by decide +kernel
theorem d_N_turn_333 : decode b_N_turn 333 = .ok (.return_, 1) := by decide +kernel
theorem d_N_triedFor_0 : decode b_N_triedFor 0 = .ok (.iload_n 2, 1) := by decide +kernel
theorem d_N_triedFor_1 : decode b_N_triedFor 1 = .ok (.iload_n 3, 1) := by decide +kernel
theorem d_N_triedFor_2 : decode b_N_triedFor 2 = .ok (.if_icmp .ne 5, 3) := by decide +kernel
theorem d_N_triedFor_5 : decode b_N_triedFor 5 = .ok (.iload_n 2, 1) := by decide +kernel
theorem d_N_triedFor_6 : decode b_N_triedFor 6 = .ok (.ireturn, 1) := by decide +kernel
theorem d_N_triedFor_7 : decode b_N_triedFor 7 = .ok (.iload_n 1, 1) := by decide +kernel
theorem d_N_triedFor_8 : decode b_N_triedFor 8 = .ok (.bipush 28, 2) := by decide +kernel
theorem d_N_triedFor_10 : decode b_N_triedFor 10 = .ok (.ishl, 1) := by decide +kernel
theorem d_N_triedFor_11 : decode b_N_triedFor 11 = .ok (.iload_n 2, 1) := by decide +kernel
theorem d_N_triedFor_12 : decode b_N_triedFor 12 = .ok (.bipush 14, 2) := by decide +kernel
theorem d_N_triedFor_14 : decode b_N_triedFor 14 = .ok (.ishl, 1) := by decide +kernel
theorem d_N_triedFor_15 : decode b_N_triedFor 15 = .ok (.ior, 1) := by decide +kernel
theorem d_N_triedFor_16 : decode b_N_triedFor 16 = .ok (.iload_n 3, 1) := by decide +kernel
theorem d_N_triedFor_17 : decode b_N_triedFor 17 = .ok (.ior, 1) := by decide +kernel
theorem d_N_triedFor_18 : decode b_N_triedFor 18 = .ok (.istore 4, 2) := by decide +kernel
theorem d_N_triedFor_20 : decode b_N_triedFor 20 = .ok (.iload 4, 2) := by decide +kernel
theorem d_N_triedFor_22 : decode b_N_triedFor 22 = .ok (.ldc 76, 2) := by decide +kernel
theorem d_N_triedFor_24 : decode b_N_triedFor 24 = .ok (.imul, 1) := by decide +kernel
theorem d_N_triedFor_25 : decode b_N_triedFor 25 = .ok (.aload_n 0, 1) := by decide +kernel
theorem d_N_triedFor_26 : decode b_N_triedFor 26 = .ok (.getfield 41, 3) := by decide +kernel
theorem d_N_triedFor_29 : decode b_N_triedFor 29 = .ok (.iushr, 1) := by decide +kernel
theorem d_N_triedFor_30 : decode b_N_triedFor 30 = .ok (.istore 5, 2) := by decide +kernel
theorem d_N_triedFor_32 : decode b_N_triedFor 32 = .ok (.aload_n 0, 1) := by decide +kernel
theorem d_N_triedFor_33 : decode b_N_triedFor 33 = .ok (.getfield 32, 3) := by decide +kernel
theorem d_N_triedFor_36 : decode b_N_triedFor 36 = .ok (.iload 5, 2) := by decide +kernel
theorem d_N_triedFor_38 : decode b_N_triedFor 38 = .ok (.iaload, 1) := by decide +kernel
theorem d_N_triedFor_39 : decode b_N_triedFor 39 = .ok (.istore 6, 2) := by decide +kernel
theorem d_N_triedFor_41 : decode b_N_triedFor 41 = .ok (.iconst 0, 1) := by decide +kernel
theorem d_N_triedFor_42 : decode b_N_triedFor 42 = .ok (.istore 7, 2) := by decide +kernel
theorem d_N_triedFor_44 : decode b_N_triedFor 44 = .ok (.iload 6, 2) := by decide +kernel
theorem d_N_triedFor_46 : decode b_N_triedFor 46 = .ok (.ifCond .eq 41, 3) := by decide +kernel
theorem d_N_triedFor_49 : decode b_N_triedFor 49 = .ok (.iload 7, 2) := by decide +kernel
theorem d_N_triedFor_51 : decode b_N_triedFor 51 = .ok (.sipush 16384, 3) := by decide +kernel
theorem d_N_triedFor_54 : decode b_N_triedFor 54 = .ok (.if_icmp .ge 33, 3) := by decide +kernel
theorem d_N_triedFor_57 : decode b_N_triedFor 57 = .ok (.aload_n 0, 1) := by decide +kernel
theorem d_N_triedFor_58 : decode b_N_triedFor 58 = .ok (.getfield 11, 3) := by decide +kernel
theorem d_N_triedFor_61 : decode b_N_triedFor 61 = .ok (.iload 6, 2) := by decide +kernel
theorem d_N_triedFor_63 : decode b_N_triedFor 63 = .ok (.iaload, 1) := by decide +kernel
theorem d_N_triedFor_64 : decode b_N_triedFor 64 = .ok (.iload 4, 2) := by decide +kernel
theorem d_N_triedFor_66 : decode b_N_triedFor 66 = .ok (.if_icmp .ne 6, 3) := by decide +kernel
theorem d_N_triedFor_69 : decode b_N_triedFor 69 = .ok (.iload 6, 2) := by decide +kernel
theorem d_N_triedFor_71 : decode b_N_triedFor 71 = .ok (.ireturn, 1) := by decide +kernel
theorem d_N_triedFor_72 : decode b_N_triedFor 72 = .ok (.aload_n 0, 1) := by decide +kernel
theorem d_N_triedFor_73 : decode b_N_triedFor 73 = .ok (.getfield 29, 3) := by decide +kernel
theorem d_N_triedFor_76 : decode b_N_triedFor 76 = .ok (.iload 6, 2) := by decide +kernel
theorem d_N_triedFor_78 : decode b_N_triedFor 78 = .ok (.iaload, 1) := by decide +kernel
theorem d_N_triedFor_79 : decode b_N_triedFor 79 = .ok (.istore 6, 2) := by decide +kernel
theorem d_N_triedFor_81 : decode b_N_triedFor 81 = .ok (.iinc 7 1, 3) := by decide +kernel
theorem d_N_triedFor_84 : decode b_N_triedFor 84 = .ok (.goto (-40), 3) := by decide +kernel
theorem d_N_triedFor_87 : decode b_N_triedFor 87 = .ok (.aload_n 0, 1) := by decide +kernel
theorem d_N_triedFor_88 : decode b_N_triedFor 88 = .ok (.getfield 48, 3) := by decide +kernel
theorem d_N_triedFor_91 : decode b_N_triedFor 91 = .ok (.istore 6, 2) := by decide +kernel
theorem d_N_triedFor_93 : decode b_N_triedFor 93 = .ok (.iload 6, 2) := by decide +kernel
theorem d_N_triedFor_95 : decode b_N_triedFor 95 = .ok (.aload_n 0, 1) := by decide +kernel
theorem d_N_triedFor_96 : decode b_N_triedFor 96 = .ok (.getfield 11, 3) := by decide +kernel
theorem d_N_triedFor_99 : decode b_N_triedFor 99 = .ok (.arraylength, 1) := by decide +kernel
theorem d_N_triedFor_100 : decode b_N_triedFor 100 = .ok (.if_icmp .lt 5, 3) := by decide +kernel
theorem d_N_triedFor_103 : decode b_N_triedFor 103 = .ok (.iload_n 2, 1) := by decide +kernel
theorem d_N_triedFor_104 : decode b_N_triedFor 104 = .ok (.ireturn, 1) := by decide +kernel
theorem d_N_triedFor_105 : decode b_N_triedFor 105 = .ok (.aload_n 0, 1) := by decide +kernel
theorem d_N_triedFor_106 : decode b_N_triedFor 106 = .ok (.getfield 11, 3) := by decide +kernel
theorem d_N_triedFor_109 : decode b_N_triedFor 109 = .ok (.iload 6, 2) := by decide +kernel
theorem d_N_triedFor_111 : decode b_N_triedFor 111 = .ok (.iload 4, 2) := by decide +kernel
theorem d_N_triedFor_113 : decode b_N_triedFor 113 = .ok (.iastore, 1) := by decide +kernel
theorem d_N_triedFor_114 : decode b_N_triedFor 114 = .ok (.aload_n 0, 1) := by decide +kernel
theorem d_N_triedFor_115 : decode b_N_triedFor 115 = .ok (.getfield 29, 3) := by decide +kernel
theorem d_N_triedFor_118 : decode b_N_triedFor 118 = .ok (.iload 6, 2) := by decide +kernel
theorem d_N_triedFor_120 : decode b_N_triedFor 120 = .ok (.aload_n 0, 1) := by decide +kernel
theorem d_N_triedFor_121 : decode b_N_triedFor 121 = .ok (.getfield 32, 3) := by decide +kernel
theorem d_N_triedFor_124 : decode b_N_triedFor 124 = .ok (.iload 5, 2) := by decide +kernel
theorem d_N_triedFor_126 : decode b_N_triedFor 126 = .ok (.iaload, 1) := by decide +kernel
theorem d_N_triedFor_127 : decode b_N_triedFor 127 = .ok (.iastore, 1) := by decide +kernel
theorem d_N_triedFor_128 : decode b_N_triedFor 128 = .ok (.aload_n 0, 1) := by decide +kernel
theorem d_N_triedFor_129 : decode b_N_triedFor 129 = .ok (.getfield 32, 3) := by decide +kernel
theorem d_N_triedFor_132 : decode b_N_triedFor 132 = .ok (.iload 5, 2) := by decide +kernel
theorem d_N_triedFor_134 : decode b_N_triedFor 134 = .ok (.iload 6, 2) := by decide +kernel
theorem d_N_triedFor_136 : decode b_N_triedFor 136 = .ok (.iastore, 1) := by decide +kernel
theorem d_N_triedFor_137 : decode b_N_triedFor 137 = .ok (.aload_n 0, 1) := by decide +kernel
theorem d_N_triedFor_138 : decode b_N_triedFor 138 = .ok (.dup, 1) := by decide +kernel
theorem d_N_triedFor_139 : decode b_N_triedFor 139 = .ok (.getfield 48, 3) := by decide +kernel
theorem d_N_triedFor_142 : decode b_N_triedFor 142 = .ok (.iconst 1, 1) := by decide +kernel
theorem d_N_triedFor_143 : decode b_N_triedFor 143 = .ok (.iadd, 1) := by decide +kernel
theorem d_N_triedFor_144 : decode b_N_triedFor 144 = .ok (.putfield 48, 3) := by decide +kernel
theorem d_N_triedFor_147 : decode b_N_triedFor 147 = .ok (.iload 6, 2) := by decide +kernel
theorem d_N_triedFor_149 : decode b_N_triedFor 149 = .ok (.ireturn, 1) := by decide +kernel
theorem d_N_forgetTried_0 : decode b_N_forgetTried 0 = .ok (.aload_n 0, 1) := by decide +kernel
theorem d_N_forgetTried_1 : decode b_N_forgetTried 1 = .ok (.getfield 48, 3) := by decide +kernel
theorem d_N_forgetTried_4 : decode b_N_forgetTried 4 = .ok (.iconst 1, 1) := by decide +kernel
theorem d_N_forgetTried_5 : decode b_N_forgetTried 5 = .ok (.isub, 1) := by decide +kernel
theorem d_N_forgetTried_6 : decode b_N_forgetTried 6 = .ok (.istore_n 2, 1) := by decide +kernel
theorem d_N_forgetTried_7 : decode b_N_forgetTried 7 = .ok (.iload_n 2, 1) := by decide +kernel
theorem d_N_forgetTried_8 : decode b_N_forgetTried 8 = .ok (.iload_n 1, 1) := by decide +kernel
theorem d_N_forgetTried_9 : decode b_N_forgetTried 9 = .ok (.if_icmp .lt 34, 3) := by decide +kernel
theorem d_N_forgetTried_12 : decode b_N_forgetTried 12 = .ok (.aload_n 0, 1) := by decide +kernel
theorem d_N_forgetTried_13 : decode b_N_forgetTried 13 = .ok (.getfield 32, 3) := by decide +kernel
theorem d_N_forgetTried_16 : decode b_N_forgetTried 16 = .ok (.aload_n 0, 1) := by decide +kernel
theorem d_N_forgetTried_17 : decode b_N_forgetTried 17 = .ok (.getfield 11, 3) := by decide +kernel
theorem d_N_forgetTried_20 : decode b_N_forgetTried 20 = .ok (.iload_n 2, 1) := by decide +kernel
theorem d_N_forgetTried_21 : decode b_N_forgetTried 21 = .ok (.iaload, 1) := by decide +kernel
theorem d_N_forgetTried_22 : decode b_N_forgetTried 22 = .ok (.ldc 76, 2) := by decide +kernel
theorem d_N_forgetTried_24 : decode b_N_forgetTried 24 = .ok (.imul, 1) := by decide +kernel
theorem d_N_forgetTried_25 : decode b_N_forgetTried 25 = .ok (.aload_n 0, 1) := by decide +kernel
theorem d_N_forgetTried_26 : decode b_N_forgetTried 26 = .ok (.getfield 41, 3) := by decide +kernel
theorem d_N_forgetTried_29 : decode b_N_forgetTried 29 = .ok (.iushr, 1) := by decide +kernel
theorem d_N_forgetTried_30 : decode b_N_forgetTried 30 = .ok (.aload_n 0, 1) := by decide +kernel
theorem d_N_forgetTried_31 : decode b_N_forgetTried 31 = .ok (.getfield 29, 3) := by decide +kernel
theorem d_N_forgetTried_34 : decode b_N_forgetTried 34 = .ok (.iload_n 2, 1) := by decide +kernel
theorem d_N_forgetTried_35 : decode b_N_forgetTried 35 = .ok (.iaload, 1) := by decide +kernel
theorem d_N_forgetTried_36 : decode b_N_forgetTried 36 = .ok (.iastore, 1) := by decide +kernel
theorem d_N_forgetTried_37 : decode b_N_forgetTried 37 = .ok (.iinc 2 (-1), 3) := by decide +kernel
theorem d_N_forgetTried_40 : decode b_N_forgetTried 40 = .ok (.goto (-33), 3) := by decide +kernel
theorem d_N_forgetTried_43 : decode b_N_forgetTried 43 = .ok (.aload_n 0, 1) := by decide +kernel
theorem d_N_forgetTried_44 : decode b_N_forgetTried 44 = .ok (.iload_n 1, 1) := by decide +kernel
theorem d_N_forgetTried_45 : decode b_N_forgetTried 45 = .ok (.putfield 48, 3) := by decide +kernel
theorem d_N_forgetTried_48 : decode b_N_forgetTried 48 = .ok (.return_, 1) := by decide +kernel
