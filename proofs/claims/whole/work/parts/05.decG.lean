theorem d_G_init_0 : decode b_G_init 0 = .ok (.aload_n 0, 1) := by decide +kernel
theorem d_G_init_1 : decode b_G_init 1 = .ok (.invokespecial 3, 3) := by decide +kernel
theorem d_G_init_4 : decode b_G_init 4 = .ok (.aload_n 0, 1) := by decide +kernel
theorem d_G_init_5 : decode b_G_init 5 = .ok (.aload_n 1, 1) := by decide +kernel
theorem d_G_init_6 : decode b_G_init 6 = .ok (.putfield 9, 3) := by decide +kernel
theorem d_G_init_9 : decode b_G_init 9 = .ok (.aload_n 0, 1) := by decide +kernel
theorem d_G_init_10 : decode b_G_init 10 = .ok (.aload_n 2, 1) := by decide +kernel
theorem d_G_init_11 : decode b_G_init 11 = .ok (.putfield 15, 3) := by decide +kernel
theorem d_G_init_14 : decode b_G_init 14 = .ok (.aload_n 0, 1) := by decide +kernel
theorem d_G_init_15 : decode b_G_init 15 = .ok (.bipush 10, 2) := by decide +kernel
theorem d_G_init_17 : decode b_G_init 17 = .ok (.newarray .int, 2) := by decide +kernel
theorem d_G_init_19 : decode b_G_init 19 = .ok (.putfield 19, 3) := by decide +kernel
theorem d_G_init_22 : decode b_G_init 22 = .ok (.aload_n 0, 1) := by decide +kernel
theorem d_G_init_23 : decode b_G_init 23 = .ok (.bipush 32, 2) := by decide +kernel
theorem d_G_init_25 : decode b_G_init 25 = .ok (.newarray .int, 2) := by decide +kernel
theorem d_G_init_27 : decode b_G_init 27 = .ok (.putfield 23, 3) := by decide +kernel
theorem d_G_init_30 : decode b_G_init 30 = .ok (.aload_n 0, 1) := by decide +kernel
theorem d_G_init_31 : decode b_G_init 31 = .ok (.bipush 32, 2) := by decide +kernel
theorem d_G_init_33 : decode b_G_init 33 = .ok (.newarray .int, 2) := by decide +kernel
theorem d_G_init_35 : decode b_G_init 35 = .ok (.putfield 26, 3) := by decide +kernel
theorem d_G_init_38 : decode b_G_init 38 = .ok (.aload_n 0, 1) := by decide +kernel
theorem d_G_init_39 : decode b_G_init 39 = .ok (.bipush 16, 2) := by decide +kernel
theorem d_G_init_41 : decode b_G_init 41 = .ok (.newarray .long, 2) := by decide +kernel
theorem d_G_init_43 : decode b_G_init 43 = .ok (.putfield 31, 3) := by decide +kernel
theorem d_G_init_46 : decode b_G_init 46 = .ok (.aload_n 0, 1) := by decide +kernel
theorem d_G_init_47 : decode b_G_init 47 = .ok (.bipush 16, 2) := by decide +kernel
theorem d_G_init_49 : decode b_G_init 49 = .ok (.newarray .int, 2) := by decide +kernel
theorem d_G_init_51 : decode b_G_init 51 = .ok (.putfield 35, 3) := by decide +kernel
theorem d_G_init_54 : decode b_G_init 54 = .ok (.aload_n 0, 1) := by decide +kernel
theorem d_G_init_55 : decode b_G_init 55 = .ok (.bipush 16, 2) := by decide +kernel
theorem d_G_init_57 : decode b_G_init 57 = .ok (.newarray .int, 2) := by decide +kernel
theorem d_G_init_59 : decode b_G_init 59 = .ok (.putfield 38, 3) := by decide +kernel
theorem d_G_init_62 : decode b_G_init 62 = .ok (.aload_n 0, 1) := by decide +kernel
theorem d_G_init_63 : decode b_G_init 63 = .ok (.bipush 10, 2) := by decide +kernel
theorem d_G_init_65 : decode b_G_init 65 = .ok (.newarray .int, 2) := by decide +kernel
theorem d_G_init_67 : decode b_G_init 67 = .ok (.putfield 41, 3) := by decide +kernel
theorem d_G_init_70 : decode b_G_init 70 = .ok (.aload_n 0, 1) := by decide +kernel
theorem d_G_init_71 : decode b_G_init 71 = .ok (.bipush 10, 2) := by decide +kernel
theorem d_G_init_73 : decode b_G_init 73 = .ok (.newarray .int, 2) := by decide +kernel
theorem d_G_init_75 : decode b_G_init 75 = .ok (.putfield 44, 3) := by decide +kernel
theorem d_G_init_78 : decode b_G_init 78 = .ok (.return_, 1) := by decide +kernel
theorem d_G_rootOf_0 : decode b_G_rootOf 0 = .ok (.aload_n 0, 1) := by decide +kernel
theorem d_G_rootOf_1 : decode b_G_rootOf 1 = .ok (.getfield 9, 3) := by decide +kernel
theorem d_G_rootOf_4 : decode b_G_rootOf 4 = .ok (.iload_n 1, 1) := by decide +kernel
theorem d_G_rootOf_5 : decode b_G_rootOf 5 = .ok (.invokevirtual 47, 3) := by decide +kernel
theorem d_G_rootOf_8 : decode b_G_rootOf 8 = .ok (.istore_n 3, 1) := by decide +kernel
theorem d_G_rootOf_9 : decode b_G_rootOf 9 = .ok (.aload_n 0, 1) := by decide +kernel
theorem d_G_rootOf_10 : decode b_G_rootOf 10 = .ok (.getfield 9, 3) := by decide +kernel
theorem d_G_rootOf_13 : decode b_G_rootOf 13 = .ok (.iload_n 1, 1) := by decide +kernel
theorem d_G_rootOf_14 : decode b_G_rootOf 14 = .ok (.iconst 0, 1) := by decide +kernel
theorem d_G_rootOf_15 : decode b_G_rootOf 15 = .ok (.invokevirtual 51, 3) := by decide +kernel
theorem d_G_rootOf_18 : decode b_G_rootOf 18 = .ok (.istore 4, 2) := by decide +kernel
theorem d_G_rootOf_20 : decode b_G_rootOf 20 = .ok (.iload_n 3, 1) := by decide +kernel
theorem d_G_rootOf_21 : decode b_G_rootOf 21 = .ok (.ifCond .ne 6, 3) := by decide +kernel
theorem d_G_rootOf_24 : decode b_G_rootOf 24 = .ok (.iload 4, 2) := by decide +kernel
theorem d_G_rootOf_26 : decode b_G_rootOf 26 = .ok (.ireturn, 1) := by decide +kernel
theorem d_G_rootOf_27 : decode b_G_rootOf 27 = .ok (.iload_n 3, 1) := by decide +kernel
theorem d_G_rootOf_28 : decode b_G_rootOf 28 = .ok (.invokestatic 55, 3) := by decide +kernel
theorem d_G_rootOf_31 : decode b_G_rootOf 31 = .ok (.istore 5, 2) := by decide +kernel
theorem d_G_rootOf_33 : decode b_G_rootOf 33 = .ok (.aload_n 0, 1) := by decide +kernel
theorem d_G_rootOf_34 : decode b_G_rootOf 34 = .ok (.getfield 15, 3) := by decide +kernel
theorem d_G_rootOf_37 : decode b_G_rootOf 37 = .ok (.iconst 2, 1) := by decide +kernel
theorem d_G_rootOf_38 : decode b_G_rootOf 38 = .ok (.aload_n 0, 1) := by decide +kernel
theorem d_G_rootOf_39 : decode b_G_rootOf 39 = .ok (.getfield 15, 3) := by decide +kernel
theorem d_G_rootOf_42 : decode b_G_rootOf 42 = .ok (.invokevirtual 62, 3) := by decide +kernel
theorem d_G_rootOf_45 : decode b_G_rootOf 45 = .ok (.iadd, 1) := by decide +kernel
theorem d_G_rootOf_46 : decode b_G_rootOf 46 = .ok (.iconst 1, 1) := by decide +kernel
theorem d_G_rootOf_47 : decode b_G_rootOf 47 = .ok (.iload 5, 2) := by decide +kernel
theorem d_G_rootOf_49 : decode b_G_rootOf 49 = .ok (.ishl, 1) := by decide +kernel
theorem d_G_rootOf_50 : decode b_G_rootOf 50 = .ok (.sipush 269, 3) := by decide +kernel
theorem d_G_rootOf_53 : decode b_G_rootOf 53 = .ok (.invokestatic 66, 3) := by decide +kernel
theorem d_G_rootOf_56 : decode b_G_rootOf 56 = .ok (.iadd, 1) := by decide +kernel
theorem d_G_rootOf_57 : decode b_G_rootOf 57 = .ok (.invokevirtual 71, 3) := by decide +kernel
theorem d_G_rootOf_60 : decode b_G_rootOf 60 = .ok (.iload 5, 2) := by decide +kernel
theorem d_G_rootOf_62 : decode b_G_rootOf 62 = .ok (.iconst 1, 1) := by decide +kernel
theorem d_G_rootOf_63 : decode b_G_rootOf 63 = .ok (.if_icmp .ne 21, 3) := by decide +kernel
theorem d_G_rootOf_66 : decode b_G_rootOf 66 = .ok (.aload_n 0, 1) := by decide +kernel
theorem d_G_rootOf_67 : decode b_G_rootOf 67 = .ok (.getfield 15, 3) := by decide +kernel
theorem d_G_rootOf_70 : decode b_G_rootOf 70 = .ok (.iload_n 3, 1) := by decide +kernel
theorem d_G_rootOf_71 : decode b_G_rootOf 71 = .ok (.invokestatic 75, 3) := by decide +kernel
theorem d_G_rootOf_74 : decode b_G_rootOf 74 = .ok (.iload 4, 2) := by decide +kernel
theorem d_G_rootOf_76 : decode b_G_rootOf 76 = .ok (.iconst 1, 1) := by decide +kernel
theorem d_G_rootOf_77 : decode b_G_rootOf 77 = .ok (.iload 4, 2) := by decide +kernel
theorem d_G_rootOf_79 : decode b_G_rootOf 79 = .ok (.isub, 1) := by decide +kernel
theorem d_G_rootOf_80 : decode b_G_rootOf 80 = .ok (.invokevirtual 78, 3) := by decide +kernel
theorem d_G_rootOf_83 : decode b_G_rootOf 83 = .ok (.ireturn, 1) := by decide +kernel
theorem d_G_rootOf_84 : decode b_G_rootOf 84 = .ok (.iconst 0, 1) := by decide +kernel
theorem d_G_rootOf_85 : decode b_G_rootOf 85 = .ok (.istore 6, 2) := by decide +kernel
theorem d_G_rootOf_87 : decode b_G_rootOf 87 = .ok (.bipush 9, 2) := by decide +kernel
theorem d_G_rootOf_89 : decode b_G_rootOf 89 = .ok (.istore 7, 2) := by decide +kernel
theorem d_G_rootOf_91 : decode b_G_rootOf 91 = .ok (.iload 7, 2) := by decide +kernel
theorem d_G_rootOf_93 : decode b_G_rootOf 93 = .ok (.ifCond .lt 35, 3) := by decide +kernel
theorem d_G_rootOf_96 : decode b_G_rootOf 96 = .ok (.iload_n 3, 1) := by decide +kernel
theorem d_G_rootOf_97 : decode b_G_rootOf 97 = .ok (.aload_n 2, 1) := by decide +kernel
theorem d_G_rootOf_98 : decode b_G_rootOf 98 = .ok (.iload 7, 2) := by decide +kernel
theorem d_G_rootOf_100 : decode b_G_rootOf 100 = .ok (.iaload, 1) := by decide +kernel
theorem d_G_rootOf_101 : decode b_G_rootOf 101 = .ok (.ishr, 1) := by decide +kernel
theorem d_G_rootOf_102 : decode b_G_rootOf 102 = .ok (.iconst 1, 1) := by decide +kernel
theorem d_G_rootOf_103 : decode b_G_rootOf 103 = .ok (.iand, 1) := by decide +kernel
theorem d_G_rootOf_104 : decode b_G_rootOf 104 = .ok (.iconst 1, 1) := by decide +kernel
theorem d_G_rootOf_105 : decode b_G_rootOf 105 = .ok (.if_icmp .ne 17, 3) := by decide +kernel
theorem d_G_rootOf_108 : decode b_G_rootOf 108 = .ok (.aload_n 0, 1) := by decide +kernel
theorem d_G_rootOf_109 : decode b_G_rootOf 109 = .ok (.getfield 19, 3) := by decide +kernel
theorem d_G_rootOf_112 : decode b_G_rootOf 112 = .ok (.iload 6, 2) := by decide +kernel
theorem d_G_rootOf_114 : decode b_G_rootOf 114 = .ok (.aload_n 2, 1) := by decide +kernel
theorem d_G_rootOf_115 : decode b_G_rootOf 115 = .ok (.iload 7, 2) := by decide +kernel
theorem d_G_rootOf_117 : decode b_G_rootOf 117 = .ok (.iaload, 1) := by decide +kernel
theorem d_G_rootOf_118 : decode b_G_rootOf 118 = .ok (.iastore, 1) := by decide +kernel
theorem d_G_rootOf_119 : decode b_G_rootOf 119 = .ok (.iinc 6 1, 3) := by decide +kernel
theorem d_G_rootOf_122 : decode b_G_rootOf 122 = .ok (.iinc 7 (-1), 3) := by decide +kernel
theorem d_G_rootOf_125 : decode b_G_rootOf 125 = .ok (.goto (-34), 3) := by decide +kernel
theorem d_G_rootOf_128 : decode b_G_rootOf 128 = .ok (.iload 5, 2) := by decide +kernel
theorem d_G_rootOf_130 : decode b_G_rootOf 130 = .ok (.iconst 5, 1) := by decide +kernel
theorem d_G_rootOf_131 : decode b_G_rootOf 131 = .ok (.if_icmp .gt 13, 3) := by decide +kernel
theorem d_G_rootOf_134 : decode b_G_rootOf 134 = .ok (.aload_n 0, 1) := by decide +kernel
theorem d_G_rootOf_135 : decode b_G_rootOf 135 = .ok (.iload_n 1, 1) := by decide +kernel
theorem d_G_rootOf_136 : decode b_G_rootOf 136 = .ok (.iload 5, 2) := by decide +kernel
theorem d_G_rootOf_138 : decode b_G_rootOf 138 = .ok (.invokevirtual 82, 3) := by decide +kernel
theorem d_G_rootOf_141 : decode b_G_rootOf 141 = .ok (.goto 10, 3) := by decide +kernel
theorem d_G_rootOf_144 : decode b_G_rootOf 144 = .ok (.aload_n 0, 1) := by decide +kernel
theorem d_G_rootOf_145 : decode b_G_rootOf 145 = .ok (.iload_n 1, 1) := by decide +kernel
theorem d_G_rootOf_146 : decode b_G_rootOf 146 = .ok (.iload 5, 2) := by decide +kernel
theorem d_G_rootOf_148 : decode b_G_rootOf 148 = .ok (.invokevirtual 85, 3) := by decide +kernel
theorem d_G_rootOf_151 : decode b_G_rootOf 151 = .ok (.ireturn, 1) := by decide +kernel
theorem d_G_ofBits_0 : decode b_G_ofBits 0 = .ok (.aload_n 0, 1) := by decide +kernel
theorem d_G_ofBits_1 : decode b_G_ofBits 1 = .ok (.getfield 23, 3) := by decide +kernel
theorem d_G_ofBits_4 : decode b_G_ofBits 4 = .ok (.iconst 0, 1) := by decide +kernel
theorem d_G_ofBits_5 : decode b_G_ofBits 5 = .ok (.iconst 0, 1) := by decide +kernel
theorem d_G_ofBits_6 : decode b_G_ofBits 6 = .ok (.iastore, 1) := by decide +kernel
theorem d_G_ofBits_7 : decode b_G_ofBits 7 = .ok (.aload_n 0, 1) := by decide +kernel
theorem d_G_ofBits_8 : decode b_G_ofBits 8 = .ok (.getfield 26, 3) := by decide +kernel
theorem d_G_ofBits_11 : decode b_G_ofBits 11 = .ok (.iconst 0, 1) := by decide +kernel
theorem d_G_ofBits_12 : decode b_G_ofBits 12 = .ok (.aload_n 0, 1) := by decide +kernel
theorem d_G_ofBits_13 : decode b_G_ofBits 13 = .ok (.getfield 9, 3) := by decide +kernel
theorem d_G_ofBits_16 : decode b_G_ofBits 16 = .ok (.iload_n 1, 1) := by decide +kernel
theorem d_G_ofBits_17 : decode b_G_ofBits 17 = .ok (.iconst 0, 1) := by decide +kernel
theorem d_G_ofBits_18 : decode b_G_ofBits 18 = .ok (.invokevirtual 51, 3) := by decide +kernel
theorem d_G_ofBits_21 : decode b_G_ofBits 21 = .ok (.iastore, 1) := by decide +kernel
theorem d_G_ofBits_22 : decode b_G_ofBits 22 = .ok (.iconst 1, 1) := by decide +kernel
theorem d_G_ofBits_23 : decode b_G_ofBits 23 = .ok (.istore_n 3, 1) := by decide +kernel
theorem d_G_ofBits_24 : decode b_G_ofBits 24 = .ok (.iconst 0, 1) := by decide +kernel
theorem d_G_ofBits_25 : decode b_G_ofBits 25 = .ok (.istore 4, 2) := by decide +kernel
theorem d_G_ofBits_27 : decode b_G_ofBits 27 = .ok (.iload 4, 2) := by decide +kernel
theorem d_G_ofBits_29 : decode b_G_ofBits 29 = .ok (.iload_n 2, 1) := by decide +kernel
theorem d_G_ofBits_30 : decode b_G_ofBits 30 = .ok (.if_icmp .ge 81, 3) := by decide +kernel
theorem d_G_ofBits_33 : decode b_G_ofBits 33 = .ok (.iconst 1, 1) := by decide +kernel
theorem d_G_ofBits_34 : decode b_G_ofBits 34 = .ok (.aload_n 0, 1) := by decide +kernel
theorem d_G_ofBits_35 : decode b_G_ofBits 35 = .ok (.getfield 19, 3) := by decide +kernel
theorem d_G_ofBits_38 : decode b_G_ofBits 38 = .ok (.iload 4, 2) := by decide +kernel
theorem d_G_ofBits_40 : decode b_G_ofBits 40 = .ok (.iaload, 1) := by decide +kernel
theorem d_G_ofBits_41 : decode b_G_ofBits 41 = .ok (.ishl, 1) := by decide +kernel
theorem d_G_ofBits_42 : decode b_G_ofBits 42 = .ok (.istore 5, 2) := by decide +kernel
theorem d_G_ofBits_44 : decode b_G_ofBits 44 = .ok (.iconst 0, 1) := by decide +kernel
theorem d_G_ofBits_45 : decode b_G_ofBits 45 = .ok (.istore 6, 2) := by decide +kernel
theorem d_G_ofBits_47 : decode b_G_ofBits 47 = .ok (.iload 6, 2) := by decide +kernel
theorem d_G_ofBits_49 : decode b_G_ofBits 49 = .ok (.iload_n 3, 1) := by decide +kernel
theorem d_G_ofBits_50 : decode b_G_ofBits 50 = .ok (.if_icmp .ge 51, 3) := by decide +kernel
theorem d_G_ofBits_53 : decode b_G_ofBits 53 = .ok (.aload_n 0, 1) := by decide +kernel
theorem d_G_ofBits_54 : decode b_G_ofBits 54 = .ok (.getfield 23, 3) := by decide +kernel
theorem d_G_ofBits_57 : decode b_G_ofBits 57 = .ok (.iload 6, 2) := by decide +kernel
theorem d_G_ofBits_59 : decode b_G_ofBits 59 = .ok (.iaload, 1) := by decide +kernel
theorem d_G_ofBits_60 : decode b_G_ofBits 60 = .ok (.iload 5, 2) := by decide +kernel
theorem d_G_ofBits_62 : decode b_G_ofBits 62 = .ok (.ior, 1) := by decide +kernel
theorem d_G_ofBits_63 : decode b_G_ofBits 63 = .ok (.istore 7, 2) := by decide +kernel
theorem d_G_ofBits_65 : decode b_G_ofBits 65 = .ok (.aload_n 0, 1) := by decide +kernel
theorem d_G_ofBits_66 : decode b_G_ofBits 66 = .ok (.getfield 23, 3) := by decide +kernel
theorem d_G_ofBits_69 : decode b_G_ofBits 69 = .ok (.iload_n 3, 1) := by decide +kernel
theorem d_G_ofBits_70 : decode b_G_ofBits 70 = .ok (.iload 6, 2) := by decide +kernel
theorem d_G_ofBits_72 : decode b_G_ofBits 72 = .ok (.iadd, 1) := by decide +kernel
theorem d_G_ofBits_73 : decode b_G_ofBits 73 = .ok (.iload 7, 2) := by decide +kernel
theorem d_G_ofBits_75 : decode b_G_ofBits 75 = .ok (.iastore, 1) := by decide +kernel
theorem d_G_ofBits_76 : decode b_G_ofBits 76 = .ok (.aload_n 0, 1) := by decide +kernel
theorem d_G_ofBits_77 : decode b_G_ofBits 77 = .ok (.getfield 26, 3) := by decide +kernel
theorem d_G_ofBits_80 : decode b_G_ofBits 80 = .ok (.iload_n 3, 1) := by decide +kernel
theorem d_G_ofBits_81 : decode b_G_ofBits 81 = .ok (.iload 6, 2) := by decide +kernel
theorem d_G_ofBits_83 : decode b_G_ofBits 83 = .ok (.iadd, 1) := by decide +kernel
theorem d_G_ofBits_84 : decode b_G_ofBits 84 = .ok (.aload_n 0, 1) := by decide +kernel
theorem d_G_ofBits_85 : decode b_G_ofBits 85 = .ok (.getfield 9, 3) := by decide +kernel
theorem d_G_ofBits_88 : decode b_G_ofBits 88 = .ok (.iload_n 1, 1) := by decide +kernel
theorem d_G_ofBits_89 : decode b_G_ofBits 89 = .ok (.iload 7, 2) := by decide +kernel
theorem d_G_ofBits_91 : decode b_G_ofBits 91 = .ok (.invokevirtual 51, 3) := by decide +kernel
theorem d_G_ofBits_94 : decode b_G_ofBits 94 = .ok (.iastore, 1) := by decide +kernel
theorem d_G_ofBits_95 : decode b_G_ofBits 95 = .ok (.iinc 6 1, 3) := by decide +kernel
theorem d_G_ofBits_98 : decode b_G_ofBits 98 = .ok (.goto (-51), 3) := by decide +kernel
theorem d_G_ofBits_101 : decode b_G_ofBits 101 = .ok (.iload_n 3, 1) := by decide +kernel
theorem d_G_ofBits_102 : decode b_G_ofBits 102 = .ok (.iconst 2, 1) := by decide +kernel
theorem d_G_ofBits_103 : decode b_G_ofBits 103 = .ok (.imul, 1) := by decide +kernel
theorem d_G_ofBits_104 : decode b_G_ofBits 104 = .ok (.istore_n 3, 1) := by decide +kernel
theorem d_G_ofBits_105 : decode b_G_ofBits 105 = .ok (.iinc 4 1, 3) := by decide +kernel
theorem d_G_ofBits_108 : decode b_G_ofBits 108 = .ok (.goto (-81), 3) := by decide +kernel
theorem d_G_ofBits_111 : decode b_G_ofBits 111 = .ok (.aload_n 0, 1) := by decide +kernel
theorem d_G_ofBits_112 : decode b_G_ofBits 112 = .ok (.aload_n 0, 1) := by decide +kernel
theorem d_G_ofBits_113 : decode b_G_ofBits 113 = .ok (.getfield 26, 3) := by decide +kernel
theorem d_G_ofBits_116 : decode b_G_ofBits 116 = .ok (.iconst 0, 1) := by decide +kernel
theorem d_G_ofBits_117 : decode b_G_ofBits 117 = .ok (.iload_n 2, 1) := by decide +kernel
theorem d_G_ofBits_118 : decode b_G_ofBits 118 = .ok (.invokevirtual 88, 3) := by decide +kernel
theorem d_G_ofBits_121 : decode b_G_ofBits 121 = .ok (.ireturn, 1) := by decide +kernel
theorem d_G_folded_0 : decode b_G_folded 0 = .ok (.iconst 1, 1) := by decide +kernel
theorem d_G_folded_1 : decode b_G_folded 1 = .ok (.iload_n 3, 1) := by decide +kernel
theorem d_G_folded_2 : decode b_G_folded 2 = .ok (.iload_n 2, 1) := by decide +kernel
theorem d_G_folded_3 : decode b_G_folded 3 = .ok (.isub, 1) := by decide +kernel
theorem d_G_folded_4 : decode b_G_folded 4 = .ok (.ishl, 1) := by decide +kernel
theorem d_G_folded_5 : decode b_G_folded 5 = .ok (.istore 4, 2) := by decide +kernel
theorem d_G_folded_7 : decode b_G_folded 7 = .ok (.iload_n 2, 1) := by decide +kernel
theorem d_G_folded_8 : decode b_G_folded 8 = .ok (.istore 5, 2) := by decide +kernel
theorem d_G_folded_10 : decode b_G_folded 10 = .ok (.iload 5, 2) := by decide +kernel
theorem d_G_folded_12 : decode b_G_folded 12 = .ok (.iload_n 3, 1) := by decide +kernel
theorem d_G_folded_13 : decode b_G_folded 13 = .ok (.if_icmp .ge 67, 3) := by decide +kernel
theorem d_G_folded_16 : decode b_G_folded 16 = .ok (.aload_n 0, 1) := by decide +kernel
theorem d_G_folded_17 : decode b_G_folded 17 = .ok (.getfield 19, 3) := by decide +kernel
theorem d_G_folded_20 : decode b_G_folded 20 = .ok (.iload 5, 2) := by decide +kernel
theorem d_G_folded_22 : decode b_G_folded 22 = .ok (.iaload, 1) := by decide +kernel
theorem d_G_folded_23 : decode b_G_folded 23 = .ok (.istore 6, 2) := by decide +kernel
theorem d_G_folded_25 : decode b_G_folded 25 = .ok (.iload 4, 2) := by decide +kernel
theorem d_G_folded_27 : decode b_G_folded 27 = .ok (.iconst 2, 1) := by decide +kernel
theorem d_G_folded_28 : decode b_G_folded 28 = .ok (.idiv, 1) := by decide +kernel
theorem d_G_folded_29 : decode b_G_folded 29 = .ok (.istore 4, 2) := by decide +kernel
theorem d_G_folded_31 : decode b_G_folded 31 = .ok (.iconst 0, 1) := by decide +kernel
theorem d_G_folded_32 : decode b_G_folded 32 = .ok (.istore 7, 2) := by decide +kernel
theorem d_G_folded_34 : decode b_G_folded 34 = .ok (.iload 7, 2) := by decide +kernel
theorem d_G_folded_36 : decode b_G_folded 36 = .ok (.iload 4, 2) := by decide +kernel
theorem d_G_folded_38 : decode b_G_folded 38 = .ok (.if_icmp .ge 36, 3) := by decide +kernel
theorem d_G_folded_41 : decode b_G_folded 41 = .ok (.aload_n 1, 1) := by decide +kernel
theorem d_G_folded_42 : decode b_G_folded 42 = .ok (.iload 7, 2) := by decide +kernel
theorem d_G_folded_44 : decode b_G_folded 44 = .ok (.aload_n 0, 1) := by decide +kernel
theorem d_G_folded_45 : decode b_G_folded 45 = .ok (.getfield 15, 3) := by decide +kernel
theorem d_G_folded_48 : decode b_G_folded 48 = .ok (.iload 6, 2) := by decide +kernel
theorem d_G_folded_50 : decode b_G_folded 50 = .ok (.aload_n 1, 1) := by decide +kernel
theorem d_G_folded_51 : decode b_G_folded 51 = .ok (.iconst 2, 1) := by decide +kernel
theorem d_G_folded_52 : decode b_G_folded 52 = .ok (.iload 7, 2) := by decide +kernel
theorem d_G_folded_54 : decode b_G_folded 54 = .ok (.imul, 1) := by decide +kernel
theorem d_G_folded_55 : decode b_G_folded 55 = .ok (.iaload, 1) := by decide +kernel
theorem d_G_folded_56 : decode b_G_folded 56 = .ok (.aload_n 1, 1) := by decide +kernel
theorem d_G_folded_57 : decode b_G_folded 57 = .ok (.iconst 2, 1) := by decide +kernel
theorem d_G_folded_58 : decode b_G_folded 58 = .ok (.iload 7, 2) := by decide +kernel
theorem d_G_folded_60 : decode b_G_folded 60 = .ok (.imul, 1) := by decide +kernel
theorem d_G_folded_61 : decode b_G_folded 61 = .ok (.iconst 1, 1) := by decide +kernel
theorem d_G_folded_62 : decode b_G_folded 62 = .ok (.iadd, 1) := by decide +kernel
theorem d_G_folded_63 : decode b_G_folded 63 = .ok (.iaload, 1) := by decide +kernel
theorem d_G_folded_64 : decode b_G_folded 64 = .ok (.invokevirtual 78, 3) := by decide +kernel
theorem d_G_folded_67 : decode b_G_folded 67 = .ok (.iastore, 1) := by decide +kernel
theorem d_G_folded_68 : decode b_G_folded 68 = .ok (.iinc 7 1, 3) := by decide +kernel
theorem d_G_folded_71 : decode b_G_folded 71 = .ok (.goto (-37), 3) := by decide +kernel
theorem d_G_folded_74 : decode b_G_folded 74 = .ok (.iinc 5 1, 3) := by decide +kernel
theorem d_G_folded_77 : decode b_G_folded 77 = .ok (.goto (-67), 3) := by decide +kernel
theorem d_G_folded_80 : decode b_G_folded 80 = .ok (.aload_n 1, 1) := by decide +kernel
theorem d_G_folded_81 : decode b_G_folded 81 = .ok (.iconst 0, 1) := by decide +kernel
theorem d_G_folded_82 : decode b_G_folded 82 = .ok (.iaload, 1) := by decide +kernel
theorem d_G_folded_83 : decode b_G_folded 83 = .ok (.ireturn, 1) := by decide +kernel
theorem d_G_ofWords_0 : decode b_G_ofWords 0 = .ok (.iconst 0, 1) := by decide +kernel
theorem d_G_ofWords_1 : decode b_G_ofWords 1 = .ok (.istore_n 3, 1) := by decide +kernel
theorem d_G_ofWords_2 : decode b_G_ofWords 2 = .ok (.iload_n 3, 1) := by decide +kernel
theorem d_G_ofWords_3 : decode b_G_ofWords 3 = .ok (.bipush 16, 2) := by decide +kernel
theorem d_G_ofWords_5 : decode b_G_ofWords 5 = .ok (.if_icmp .ge 24, 3) := by decide +kernel
theorem d_G_ofWords_8 : decode b_G_ofWords 8 = .ok (.aload_n 0, 1) := by decide +kernel
theorem d_G_ofWords_9 : decode b_G_ofWords 9 = .ok (.getfield 31, 3) := by decide +kernel
theorem d_G_ofWords_12 : decode b_G_ofWords 12 = .ok (.iload_n 3, 1) := by decide +kernel
theorem d_G_ofWords_13 : decode b_G_ofWords 13 = .ok (.aload_n 0, 1) := by decide +kernel
theorem d_G_ofWords_14 : decode b_G_ofWords 14 = .ok (.getfield 9, 3) := by decide +kernel
theorem d_G_ofWords_17 : decode b_G_ofWords 17 = .ok (.iload_n 1, 1) := by decide +kernel
theorem d_G_ofWords_18 : decode b_G_ofWords 18 = .ok (.iload_n 3, 1) := by decide +kernel
theorem d_G_ofWords_19 : decode b_G_ofWords 19 = .ok (.invokevirtual 92, 3) := by decide +kernel
theorem d_G_ofWords_22 : decode b_G_ofWords 22 = .ok (.lastore, 1) := by decide +kernel
theorem d_G_ofWords_23 : decode b_G_ofWords 23 = .ok (.iinc 3 1, 3) := by decide +kernel
theorem d_G_ofWords_26 : decode b_G_ofWords 26 = .ok (.goto (-24), 3) := by decide +kernel
theorem d_G_ofWords_29 : decode b_G_ofWords 29 = .ok (.aload_n 0, 1) := by decide +kernel
theorem d_G_ofWords_30 : decode b_G_ofWords 30 = .ok (.iload_n 2, 1) := by decide +kernel
theorem d_G_ofWords_31 : decode b_G_ofWords 31 = .ok (.invokevirtual 96, 3) := by decide +kernel
theorem d_G_ofWords_34 : decode b_G_ofWords 34 = .ok (.iconst 0, 1) := by decide +kernel
theorem d_G_ofWords_35 : decode b_G_ofWords 35 = .ok (.istore_n 3, 1) := by decide +kernel
theorem d_G_ofWords_36 : decode b_G_ofWords 36 = .ok (.iload_n 3, 1) := by decide +kernel
theorem d_G_ofWords_37 : decode b_G_ofWords 37 = .ok (.bipush 16, 2) := by decide +kernel
theorem d_G_ofWords_39 : decode b_G_ofWords 39 = .ok (.if_icmp .ge 16, 3) := by decide +kernel
theorem d_G_ofWords_42 : decode b_G_ofWords 42 = .ok (.aload_n 0, 1) := by decide +kernel
theorem d_G_ofWords_43 : decode b_G_ofWords 43 = .ok (.getfield 38, 3) := by decide +kernel
theorem d_G_ofWords_46 : decode b_G_ofWords 46 = .ok (.iload_n 3, 1) := by decide +kernel
theorem d_G_ofWords_47 : decode b_G_ofWords 47 = .ok (.iconst (-1), 1) := by decide +kernel
theorem d_G_ofWords_48 : decode b_G_ofWords 48 = .ok (.iastore, 1) := by decide +kernel
theorem d_G_ofWords_49 : decode b_G_ofWords 49 = .ok (.iinc 3 1, 3) := by decide +kernel
theorem d_G_ofWords_52 : decode b_G_ofWords 52 = .ok (.goto (-16), 3) := by decide +kernel
theorem d_G_ofWords_55 : decode b_G_ofWords 55 = .ok (.iconst 1, 1) := by decide +kernel
theorem d_G_ofWords_56 : decode b_G_ofWords 56 = .ok (.iload_n 2, 1) := by decide +kernel
theorem d_G_ofWords_57 : decode b_G_ofWords 57 = .ok (.bipush 6, 2) := by decide +kernel
theorem d_G_ofWords_59 : decode b_G_ofWords 59 = .ok (.isub, 1) := by decide +kernel
theorem d_G_ofWords_60 : decode b_G_ofWords 60 = .ok (.ishl, 1) := by decide +kernel
theorem d_G_ofWords_61 : decode b_G_ofWords 61 = .ok (.istore_n 3, 1) := by decide +kernel
theorem d_G_ofWords_62 : decode b_G_ofWords 62 = .ok (.iconst 0, 1) := by decide +kernel
theorem d_G_ofWords_63 : decode b_G_ofWords 63 = .ok (.istore 4, 2) := by decide +kernel
theorem d_G_ofWords_65 : decode b_G_ofWords 65 = .ok (.iload 4, 2) := by decide +kernel
theorem d_G_ofWords_67 : decode b_G_ofWords 67 = .ok (.iload_n 3, 1) := by decide +kernel
theorem d_G_ofWords_68 : decode b_G_ofWords 68 = .ok (.if_icmp .ge 128, 3) := by decide +kernel
theorem d_G_ofWords_71 : decode b_G_ofWords 71 = .ok (.iconst 0, 1) := by decide +kernel
theorem d_G_ofWords_72 : decode b_G_ofWords 72 = .ok (.istore 5, 2) := by decide +kernel
theorem d_G_ofWords_74 : decode b_G_ofWords 74 = .ok (.iload 5, 2) := by decide +kernel
theorem d_G_ofWords_76 : decode b_G_ofWords 76 = .ok (.iload 4, 2) := by decide +kernel
theorem d_G_ofWords_78 : decode b_G_ofWords 78 = .ok (.if_icmp .ge 27, 3) := by decide +kernel
theorem d_G_ofWords_81 : decode b_G_ofWords 81 = .ok (.aload_n 0, 1) := by decide +kernel
theorem d_G_ofWords_82 : decode b_G_ofWords 82 = .ok (.getfield 31, 3) := by decide +kernel
theorem d_G_ofWords_85 : decode b_G_ofWords 85 = .ok (.iload 5, 2) := by decide +kernel
theorem d_G_ofWords_87 : decode b_G_ofWords 87 = .ok (.laload, 1) := by decide +kernel
theorem d_G_ofWords_88 : decode b_G_ofWords 88 = .ok (.aload_n 0, 1) := by decide +kernel
theorem d_G_ofWords_89 : decode b_G_ofWords 89 = .ok (.getfield 31, 3) := by decide +kernel
theorem d_G_ofWords_92 : decode b_G_ofWords 92 = .ok (.iload 4, 2) := by decide +kernel
theorem d_G_ofWords_94 : decode b_G_ofWords 94 = .ok (.laload, 1) := by decide +kernel
theorem d_G_ofWords_95 : decode b_G_ofWords 95 = .ok (.lcmp, 1) := by decide +kernel
theorem d_G_ofWords_96 : decode b_G_ofWords 96 = .ok (.ifCond .eq 9, 3) := by decide +kernel
theorem d_G_ofWords_99 : decode b_G_ofWords 99 = .ok (.iinc 5 1, 3) := by decide +kernel
theorem d_G_ofWords_102 : decode b_G_ofWords 102 = .ok (.goto (-28), 3) := by decide +kernel
theorem d_G_ofWords_105 : decode b_G_ofWords 105 = .ok (.iload 5, 2) := by decide +kernel
theorem d_G_ofWords_107 : decode b_G_ofWords 107 = .ok (.iload 4, 2) := by decide +kernel
theorem d_G_ofWords_109 : decode b_G_ofWords 109 = .ok (.if_icmp .ge 20, 3) := by decide +kernel
theorem d_G_ofWords_112 : decode b_G_ofWords 112 = .ok (.aload_n 0, 1) := by decide +kernel
theorem d_G_ofWords_113 : decode b_G_ofWords 113 = .ok (.getfield 35, 3) := by decide +kernel
theorem d_G_ofWords_116 : decode b_G_ofWords 116 = .ok (.iload 4, 2) := by decide +kernel
theorem d_G_ofWords_118 : decode b_G_ofWords 118 = .ok (.aload_n 0, 1) := by decide +kernel
theorem d_G_ofWords_119 : decode b_G_ofWords 119 = .ok (.getfield 35, 3) := by decide +kernel
theorem d_G_ofWords_122 : decode b_G_ofWords 122 = .ok (.iload 5, 2) := by decide +kernel
theorem d_G_ofWords_124 : decode b_G_ofWords 124 = .ok (.iaload, 1) := by decide +kernel
theorem d_G_ofWords_125 : decode b_G_ofWords 125 = .ok (.iastore, 1) := by decide +kernel
theorem d_G_ofWords_126 : decode b_G_ofWords 126 = .ok (.goto 64, 3) := by decide +kernel
theorem d_G_ofWords_129 : decode b_G_ofWords 129 = .ok (.iconst 0, 1) := by decide +kernel
theorem d_G_ofWords_130 : decode b_G_ofWords 130 = .ok (.istore 6, 2) := by decide +kernel
theorem d_G_ofWords_132 : decode b_G_ofWords 132 = .ok (.iload 6, 2) := by decide +kernel
theorem d_G_ofWords_134 : decode b_G_ofWords 134 = .ok (.bipush 16, 2) := by decide +kernel
theorem d_G_ofWords_136 : decode b_G_ofWords 136 = .ok (.if_icmp .ge 36, 3) := by decide +kernel
theorem d_G_ofWords_139 : decode b_G_ofWords 139 = .ok (.aload_n 0, 1) := by decide +kernel
theorem d_G_ofWords_140 : decode b_G_ofWords 140 = .ok (.getfield 26, 3) := by decide +kernel
theorem d_G_ofWords_143 : decode b_G_ofWords 143 = .ok (.iload 6, 2) := by decide +kernel
theorem d_G_ofWords_145 : decode b_G_ofWords 145 = .ok (.aload_n 0, 1) := by decide +kernel
theorem d_G_ofWords_146 : decode b_G_ofWords 146 = .ok (.aload_n 0, 1) := by decide +kernel
theorem d_G_ofWords_147 : decode b_G_ofWords 147 = .ok (.getfield 31, 3) := by decide +kernel
theorem d_G_ofWords_150 : decode b_G_ofWords 150 = .ok (.iload 4, 2) := by decide +kernel
theorem d_G_ofWords_152 : decode b_G_ofWords 152 = .ok (.laload, 1) := by decide +kernel
theorem d_G_ofWords_153 : decode b_G_ofWords 153 = .ok (.iconst 4, 1) := by decide +kernel
theorem d_G_ofWords_154 : decode b_G_ofWords 154 = .ok (.iload 6, 2) := by decide +kernel
theorem d_G_ofWords_156 : decode b_G_ofWords 156 = .ok (.imul, 1) := by decide +kernel
theorem d_G_ofWords_157 : decode b_G_ofWords 157 = .ok (.lushr, 1) := by decide +kernel
theorem d_G_ofWords_158 : decode b_G_ofWords 158 = .ok (.l2i, 1) := by decide +kernel
theorem d_G_ofWords_159 : decode b_G_ofWords 159 = .ok (.bipush 15, 2) := by decide +kernel
theorem d_G_ofWords_161 : decode b_G_ofWords 161 = .ok (.iand, 1) := by decide +kernel
theorem d_G_ofWords_162 : decode b_G_ofWords 162 = .ok (.invokevirtual 99, 3) := by decide +kernel
theorem d_G_ofWords_165 : decode b_G_ofWords 165 = .ok (.iastore, 1) := by decide +kernel
theorem d_G_ofWords_166 : decode b_G_ofWords 166 = .ok (.iinc 6 1, 3) := by decide +kernel
theorem d_G_ofWords_169 : decode b_G_ofWords 169 = .ok (.goto (-37), 3) := by decide +kernel
theorem d_G_ofWords_172 : decode b_G_ofWords 172 = .ok (.aload_n 0, 1) := by decide +kernel
theorem d_G_ofWords_173 : decode b_G_ofWords 173 = .ok (.getfield 35, 3) := by decide +kernel
theorem d_G_ofWords_176 : decode b_G_ofWords 176 = .ok (.iload 4, 2) := by decide +kernel
theorem d_G_ofWords_178 : decode b_G_ofWords 178 = .ok (.aload_n 0, 1) := by decide +kernel
theorem d_G_ofWords_179 : decode b_G_ofWords 179 = .ok (.aload_n 0, 1) := by decide +kernel
theorem d_G_ofWords_180 : decode b_G_ofWords 180 = .ok (.getfield 26, 3) := by decide +kernel
theorem d_G_ofWords_183 : decode b_G_ofWords 183 = .ok (.iconst 2, 1) := by decide +kernel
theorem d_G_ofWords_184 : decode b_G_ofWords 184 = .ok (.bipush 6, 2) := by decide +kernel
theorem d_G_ofWords_186 : decode b_G_ofWords 186 = .ok (.invokevirtual 88, 3) := by decide +kernel
theorem d_G_ofWords_189 : decode b_G_ofWords 189 = .ok (.iastore, 1) := by decide +kernel
theorem d_G_ofWords_190 : decode b_G_ofWords 190 = .ok (.iinc 4 1, 3) := by decide +kernel
theorem d_G_ofWords_193 : decode b_G_ofWords 193 = .ok (.goto (-128), 3) := by decide +kernel
theorem d_G_ofWords_196 : decode b_G_ofWords 196 = .ok (.aload_n 0, 1) := by decide +kernel
theorem d_G_ofWords_197 : decode b_G_ofWords 197 = .ok (.aload_n 0, 1) := by decide +kernel
theorem d_G_ofWords_198 : decode b_G_ofWords 198 = .ok (.getfield 35, 3) := by decide +kernel
theorem d_G_ofWords_201 : decode b_G_ofWords 201 = .ok (.bipush 6, 2) := by decide +kernel
theorem d_G_ofWords_203 : decode b_G_ofWords 203 = .ok (.iload_n 2, 1) := by decide +kernel
theorem d_G_ofWords_204 : decode b_G_ofWords 204 = .ok (.invokevirtual 88, 3) := by decide +kernel
theorem d_G_ofWords_207 : decode b_G_ofWords 207 = .ok (.ireturn, 1) := by decide +kernel
theorem d_G_ofFour_0 : decode b_G_ofFour 0 = .ok (.aload_n 0, 1) := by decide +kernel
theorem d_G_ofFour_1 : decode b_G_ofFour 1 = .ok (.getfield 38, 3) := by decide +kernel
theorem d_G_ofFour_4 : decode b_G_ofFour 4 = .ok (.iload_n 1, 1) := by decide +kernel
theorem d_G_ofFour_5 : decode b_G_ofFour 5 = .ok (.iaload, 1) := by decide +kernel
theorem d_G_ofFour_6 : decode b_G_ofFour 6 = .ok (.iconst (-1), 1) := by decide +kernel
theorem d_G_ofFour_7 : decode b_G_ofFour 7 = .ok (.if_icmp .ne 68, 3) := by decide +kernel
theorem d_G_ofFour_10 : decode b_G_ofFour 10 = .ok (.aload_n 0, 1) := by decide +kernel
theorem d_G_ofFour_11 : decode b_G_ofFour 11 = .ok (.getfield 15, 3) := by decide +kernel
theorem d_G_ofFour_14 : decode b_G_ofFour 14 = .ok (.aload_n 0, 1) := by decide +kernel
theorem d_G_ofFour_15 : decode b_G_ofFour 15 = .ok (.getfield 19, 3) := by decide +kernel
theorem d_G_ofFour_18 : decode b_G_ofFour 18 = .ok (.iconst 0, 1) := by decide +kernel
theorem d_G_ofFour_19 : decode b_G_ofFour 19 = .ok (.iaload, 1) := by decide +kernel
theorem d_G_ofFour_20 : decode b_G_ofFour 20 = .ok (.iload_n 1, 1) := by decide +kernel
theorem d_G_ofFour_21 : decode b_G_ofFour 21 = .ok (.iconst 1, 1) := by decide +kernel
theorem d_G_ofFour_22 : decode b_G_ofFour 22 = .ok (.iand, 1) := by decide +kernel
theorem d_G_ofFour_23 : decode b_G_ofFour 23 = .ok (.iload_n 1, 1) := by decide +kernel
theorem d_G_ofFour_24 : decode b_G_ofFour 24 = .ok (.iconst 1, 1) := by decide +kernel
theorem d_G_ofFour_25 : decode b_G_ofFour 25 = .ok (.ishr, 1) := by decide +kernel
theorem d_G_ofFour_26 : decode b_G_ofFour 26 = .ok (.iconst 1, 1) := by decide +kernel
theorem d_G_ofFour_27 : decode b_G_ofFour 27 = .ok (.iand, 1) := by decide +kernel
theorem d_G_ofFour_28 : decode b_G_ofFour 28 = .ok (.invokevirtual 78, 3) := by decide +kernel
theorem d_G_ofFour_31 : decode b_G_ofFour 31 = .ok (.istore_n 2, 1) := by decide +kernel
theorem d_G_ofFour_32 : decode b_G_ofFour 32 = .ok (.aload_n 0, 1) := by decide +kernel
theorem d_G_ofFour_33 : decode b_G_ofFour 33 = .ok (.getfield 15, 3) := by decide +kernel
theorem d_G_ofFour_36 : decode b_G_ofFour 36 = .ok (.aload_n 0, 1) := by decide +kernel
theorem d_G_ofFour_37 : decode b_G_ofFour 37 = .ok (.getfield 19, 3) := by decide +kernel
theorem d_G_ofFour_40 : decode b_G_ofFour 40 = .ok (.iconst 0, 1) := by decide +kernel
theorem d_G_ofFour_41 : decode b_G_ofFour 41 = .ok (.iaload, 1) := by decide +kernel
theorem d_G_ofFour_42 : decode b_G_ofFour 42 = .ok (.iload_n 1, 1) := by decide +kernel
theorem d_G_ofFour_43 : decode b_G_ofFour 43 = .ok (.iconst 2, 1) := by decide +kernel
theorem d_G_ofFour_44 : decode b_G_ofFour 44 = .ok (.ishr, 1) := by decide +kernel
theorem d_G_ofFour_45 : decode b_G_ofFour 45 = .ok (.iconst 1, 1) := by decide +kernel
theorem d_G_ofFour_46 : decode b_G_ofFour 46 = .ok (.iand, 1) := by decide +kernel
theorem d_G_ofFour_47 : decode b_G_ofFour 47 = .ok (.iload_n 1, 1) := by decide +kernel
theorem d_G_ofFour_48 : decode b_G_ofFour 48 = .ok (.iconst 3, 1) := by decide +kernel
theorem d_G_ofFour_49 : decode b_G_ofFour 49 = .ok (.ishr, 1) := by decide +kernel
theorem d_G_ofFour_50 : decode b_G_ofFour 50 = .ok (.invokevirtual 78, 3) := by decide +kernel
theorem d_G_ofFour_53 : decode b_G_ofFour 53 = .ok (.istore_n 3, 1) := by decide +kernel
theorem d_G_ofFour_54 : decode b_G_ofFour 54 = .ok (.aload_n 0, 1) := by decide +kernel
theorem d_G_ofFour_55 : decode b_G_ofFour 55 = .ok (.getfield 38, 3) := by decide +kernel
theorem d_G_ofFour_58 : decode b_G_ofFour 58 = .ok (.iload_n 1, 1) := by decide +kernel
theorem d_G_ofFour_59 : decode b_G_ofFour 59 = .ok (.aload_n 0, 1) := by decide +kernel
theorem d_G_ofFour_60 : decode b_G_ofFour 60 = .ok (.getfield 15, 3) := by decide +kernel
theorem d_G_ofFour_63 : decode b_G_ofFour 63 = .ok (.aload_n 0, 1) := by decide +kernel
theorem d_G_ofFour_64 : decode b_G_ofFour 64 = .ok (.getfield 19, 3) := by decide +kernel
theorem d_G_ofFour_67 : decode b_G_ofFour 67 = .ok (.iconst 1, 1) := by decide +kernel
theorem d_G_ofFour_68 : decode b_G_ofFour 68 = .ok (.iaload, 1) := by decide +kernel
theorem d_G_ofFour_69 : decode b_G_ofFour 69 = .ok (.iload_n 2, 1) := by decide +kernel
theorem d_G_ofFour_70 : decode b_G_ofFour 70 = .ok (.iload_n 3, 1) := by decide +kernel
theorem d_G_ofFour_71 : decode b_G_ofFour 71 = .ok (.invokevirtual 78, 3) := by decide +kernel
theorem d_G_ofFour_74 : decode b_G_ofFour 74 = .ok (.iastore, 1) := by decide +kernel
theorem d_G_ofFour_75 : decode b_G_ofFour 75 = .ok (.aload_n 0, 1) := by decide +kernel
theorem d_G_ofFour_76 : decode b_G_ofFour 76 = .ok (.getfield 38, 3) := by decide +kernel
theorem d_G_ofFour_79 : decode b_G_ofFour 79 = .ok (.iload_n 1, 1) := by decide +kernel
theorem d_G_ofFour_80 : decode b_G_ofFour 80 = .ok (.iaload, 1) := by decide +kernel
theorem d_G_ofFour_81 : decode b_G_ofFour 81 = .ok (.ireturn, 1) := by decide +kernel
theorem d_G_arrange_0 : decode b_G_arrange 0 = .ok (.iconst 0, 1) := by decide +kernel
theorem d_G_arrange_1 : decode b_G_arrange 1 = .ok (.istore_n 2, 1) := by decide +kernel
theorem d_G_arrange_2 : decode b_G_arrange 2 = .ok (.iload_n 2, 1) := by decide +kernel
theorem d_G_arrange_3 : decode b_G_arrange 3 = .ok (.bipush 10, 2) := by decide +kernel
theorem d_G_arrange_5 : decode b_G_arrange 5 = .ok (.if_icmp .ge 23, 3) := by decide +kernel
theorem d_G_arrange_8 : decode b_G_arrange 8 = .ok (.aload_n 0, 1) := by decide +kernel
theorem d_G_arrange_9 : decode b_G_arrange 9 = .ok (.getfield 41, 3) := by decide +kernel
theorem d_G_arrange_12 : decode b_G_arrange 12 = .ok (.iload_n 2, 1) := by decide +kernel
theorem d_G_arrange_13 : decode b_G_arrange 13 = .ok (.iload_n 2, 1) := by decide +kernel
theorem d_G_arrange_14 : decode b_G_arrange 14 = .ok (.iastore, 1) := by decide +kernel
theorem d_G_arrange_15 : decode b_G_arrange 15 = .ok (.aload_n 0, 1) := by decide +kernel
theorem d_G_arrange_16 : decode b_G_arrange 16 = .ok (.getfield 44, 3) := by decide +kernel
theorem d_G_arrange_19 : decode b_G_arrange 19 = .ok (.iload_n 2, 1) := by decide +kernel
theorem d_G_arrange_20 : decode b_G_arrange 20 = .ok (.iload_n 2, 1) := by decide +kernel
theorem d_G_arrange_21 : decode b_G_arrange 21 = .ok (.iastore, 1) := by decide +kernel
theorem d_G_arrange_22 : decode b_G_arrange 22 = .ok (.iinc 2 1, 3) := by decide +kernel
theorem d_G_arrange_25 : decode b_G_arrange 25 = .ok (.goto (-23), 3) := by decide +kernel
theorem d_G_arrange_28 : decode b_G_arrange 28 = .ok (.iconst 0, 1) := by decide +kernel
theorem d_G_arrange_29 : decode b_G_arrange 29 = .ok (.istore_n 2, 1) := by decide +kernel
theorem d_G_arrange_30 : decode b_G_arrange 30 = .ok (.iload_n 2, 1) := by decide +kernel
theorem d_G_arrange_31 : decode b_G_arrange 31 = .ok (.iload_n 1, 1) := by decide +kernel
theorem d_G_arrange_32 : decode b_G_arrange 32 = .ok (.if_icmp .ge 56, 3) := by decide +kernel
theorem d_G_arrange_35 : decode b_G_arrange 35 = .ok (.aload_n 0, 1) := by decide +kernel
theorem d_G_arrange_36 : decode b_G_arrange 36 = .ok (.getfield 41, 3) := by decide +kernel
theorem d_G_arrange_39 : decode b_G_arrange 39 = .ok (.aload_n 0, 1) := by decide +kernel
theorem d_G_arrange_40 : decode b_G_arrange 40 = .ok (.getfield 19, 3) := by decide +kernel
theorem d_G_arrange_43 : decode b_G_arrange 43 = .ok (.iload_n 2, 1) := by decide +kernel
theorem d_G_arrange_44 : decode b_G_arrange 44 = .ok (.iaload, 1) := by decide +kernel
theorem d_G_arrange_45 : decode b_G_arrange 45 = .ok (.iaload, 1) := by decide +kernel
theorem d_G_arrange_46 : decode b_G_arrange 46 = .ok (.istore_n 3, 1) := by decide +kernel
theorem d_G_arrange_47 : decode b_G_arrange 47 = .ok (.iload_n 3, 1) := by decide +kernel
theorem d_G_arrange_48 : decode b_G_arrange 48 = .ok (.iload_n 2, 1) := by decide +kernel
theorem d_G_arrange_49 : decode b_G_arrange 49 = .ok (.if_icmp .eq 33, 3) := by decide +kernel
theorem d_G_arrange_52 : decode b_G_arrange 52 = .ok (.aload_n 0, 1) := by decide +kernel
theorem d_G_arrange_53 : decode b_G_arrange 53 = .ok (.iload_n 2, 1) := by decide +kernel
theorem d_G_arrange_54 : decode b_G_arrange 54 = .ok (.iload_n 3, 1) := by decide +kernel
theorem d_G_arrange_55 : decode b_G_arrange 55 = .ok (.invokevirtual 102, 3) := by decide +kernel
theorem d_G_arrange_58 : decode b_G_arrange 58 = .ok (.aload_n 0, 1) := by decide +kernel
theorem d_G_arrange_59 : decode b_G_arrange 59 = .ok (.getfield 44, 3) := by decide +kernel
theorem d_G_arrange_62 : decode b_G_arrange 62 = .ok (.iload_n 3, 1) := by decide +kernel
theorem d_G_arrange_63 : decode b_G_arrange 63 = .ok (.aload_n 0, 1) := by decide +kernel
theorem d_G_arrange_64 : decode b_G_arrange 64 = .ok (.getfield 44, 3) := by decide +kernel
theorem d_G_arrange_67 : decode b_G_arrange 67 = .ok (.iload_n 2, 1) := by decide +kernel
theorem d_G_arrange_68 : decode b_G_arrange 68 = .ok (.iaload, 1) := by decide +kernel
theorem d_G_arrange_69 : decode b_G_arrange 69 = .ok (.iastore, 1) := by decide +kernel
theorem d_G_arrange_70 : decode b_G_arrange 70 = .ok (.aload_n 0, 1) := by decide +kernel
theorem d_G_arrange_71 : decode b_G_arrange 71 = .ok (.getfield 41, 3) := by decide +kernel
theorem d_G_arrange_74 : decode b_G_arrange 74 = .ok (.aload_n 0, 1) := by decide +kernel
theorem d_G_arrange_75 : decode b_G_arrange 75 = .ok (.getfield 44, 3) := by decide +kernel
theorem d_G_arrange_78 : decode b_G_arrange 78 = .ok (.iload_n 3, 1) := by decide +kernel
theorem d_G_arrange_79 : decode b_G_arrange 79 = .ok (.iaload, 1) := by decide +kernel
theorem d_G_arrange_80 : decode b_G_arrange 80 = .ok (.iload_n 3, 1) := by decide +kernel
theorem d_G_arrange_81 : decode b_G_arrange 81 = .ok (.iastore, 1) := by decide +kernel
theorem d_G_arrange_82 : decode b_G_arrange 82 = .ok (.iinc 2 1, 3) := by decide +kernel
theorem d_G_arrange_85 : decode b_G_arrange 85 = .ok (.goto (-55), 3) := by decide +kernel
theorem d_G_arrange_88 : decode b_G_arrange 88 = .ok (.return_, 1) := by decide +kernel
theorem d_G_exchange_0 : decode b_G_exchange 0 = .ok (.iload_n 2, 1) := by decide +kernel
theorem d_G_exchange_1 : decode b_G_exchange 1 = .ok (.bipush 6, 2) := by decide +kernel
theorem d_G_exchange_3 : decode b_G_exchange 3 = .ok (.if_icmp .ge 12, 3) := by decide +kernel
theorem d_G_exchange_6 : decode b_G_exchange 6 = .ok (.aload_n 0, 1) := by decide +kernel
theorem d_G_exchange_7 : decode b_G_exchange 7 = .ok (.iload_n 1, 1) := by decide +kernel
theorem d_G_exchange_8 : decode b_G_exchange 8 = .ok (.iload_n 2, 1) := by decide +kernel
theorem d_G_exchange_9 : decode b_G_exchange 9 = .ok (.invokevirtual 106, 3) := by decide +kernel
theorem d_G_exchange_12 : decode b_G_exchange 12 = .ok (.goto 39, 3) := by decide +kernel
theorem d_G_exchange_15 : decode b_G_exchange 15 = .ok (.iload_n 1, 1) := by decide +kernel
theorem d_G_exchange_16 : decode b_G_exchange 16 = .ok (.bipush 6, 2) := by decide +kernel
theorem d_G_exchange_18 : decode b_G_exchange 18 = .ok (.if_icmp .ge 17, 3) := by decide +kernel
theorem d_G_exchange_21 : decode b_G_exchange 21 = .ok (.aload_n 0, 1) := by decide +kernel
theorem d_G_exchange_22 : decode b_G_exchange 22 = .ok (.iload_n 1, 1) := by decide +kernel
theorem d_G_exchange_23 : decode b_G_exchange 23 = .ok (.iconst 1, 1) := by decide +kernel
theorem d_G_exchange_24 : decode b_G_exchange 24 = .ok (.iload_n 2, 1) := by decide +kernel
theorem d_G_exchange_25 : decode b_G_exchange 25 = .ok (.bipush 6, 2) := by decide +kernel
theorem d_G_exchange_27 : decode b_G_exchange 27 = .ok (.isub, 1) := by decide +kernel
theorem d_G_exchange_28 : decode b_G_exchange 28 = .ok (.ishl, 1) := by decide +kernel
theorem d_G_exchange_29 : decode b_G_exchange 29 = .ok (.invokevirtual 109, 3) := by decide +kernel
theorem d_G_exchange_32 : decode b_G_exchange 32 = .ok (.goto 19, 3) := by decide +kernel
theorem d_G_exchange_35 : decode b_G_exchange 35 = .ok (.aload_n 0, 1) := by decide +kernel
theorem d_G_exchange_36 : decode b_G_exchange 36 = .ok (.iconst 1, 1) := by decide +kernel
theorem d_G_exchange_37 : decode b_G_exchange 37 = .ok (.iload_n 1, 1) := by decide +kernel
theorem d_G_exchange_38 : decode b_G_exchange 38 = .ok (.bipush 6, 2) := by decide +kernel
theorem d_G_exchange_40 : decode b_G_exchange 40 = .ok (.isub, 1) := by decide +kernel
theorem d_G_exchange_41 : decode b_G_exchange 41 = .ok (.ishl, 1) := by decide +kernel
theorem d_G_exchange_42 : decode b_G_exchange 42 = .ok (.iconst 1, 1) := by decide +kernel
theorem d_G_exchange_43 : decode b_G_exchange 43 = .ok (.iload_n 2, 1) := by decide +kernel
theorem d_G_exchange_44 : decode b_G_exchange 44 = .ok (.bipush 6, 2) := by decide +kernel
theorem d_G_exchange_46 : decode b_G_exchange 46 = .ok (.isub, 1) := by decide +kernel
theorem d_G_exchange_47 : decode b_G_exchange 47 = .ok (.ishl, 1) := by decide +kernel
theorem d_G_exchange_48 : decode b_G_exchange 48 = .ok (.invokevirtual 112, 3) := by decide +kernel
theorem d_G_exchange_51 : decode b_G_exchange 51 = .ok (.return_, 1) := by decide +kernel
theorem d_G_exchangeWithinWords_0 : decode b_G_exchangeWithinWords 0 = .ok (.getstatic 115, 3) := by decide +kernel
theorem d_G_exchangeWithinWords_3 : decode b_G_exchangeWithinWords 3 = .ok (.iload_n 1, 1) := by decide +kernel
theorem d_G_exchangeWithinWords_4 : decode b_G_exchangeWithinWords 4 = .ok (.laload, 1) := by decide +kernel
theorem d_G_exchangeWithinWords_5 : decode b_G_exchangeWithinWords 5 = .ok (.getstatic 115, 3) := by decide +kernel
theorem d_G_exchangeWithinWords_8 : decode b_G_exchangeWithinWords 8 = .ok (.iload_n 2, 1) := by decide +kernel
theorem d_G_exchangeWithinWords_9 : decode b_G_exchangeWithinWords 9 = .ok (.laload, 1) := by decide +kernel
theorem d_G_exchangeWithinWords_10 : decode b_G_exchangeWithinWords 10 = .ok (.ldc2_w 118, 3) := by decide +kernel
theorem d_G_exchangeWithinWords_13 : decode b_G_exchangeWithinWords 13 = .ok (.lxor, 1) := by decide +kernel
theorem d_G_exchangeWithinWords_14 : decode b_G_exchangeWithinWords 14 = .ok (.land, 1) := by decide +kernel
theorem d_G_exchangeWithinWords_15 : decode b_G_exchangeWithinWords 15 = .ok (.lstore_n 3, 1) := by decide +kernel
theorem d_G_exchangeWithinWords_16 : decode b_G_exchangeWithinWords 16 = .ok (.iconst 1, 1) := by decide +kernel
theorem d_G_exchangeWithinWords_17 : decode b_G_exchangeWithinWords 17 = .ok (.iload_n 2, 1) := by decide +kernel
theorem d_G_exchangeWithinWords_18 : decode b_G_exchangeWithinWords 18 = .ok (.ishl, 1) := by decide +kernel
theorem d_G_exchangeWithinWords_19 : decode b_G_exchangeWithinWords 19 = .ok (.iconst 1, 1) := by decide +kernel
theorem d_G_exchangeWithinWords_20 : decode b_G_exchangeWithinWords 20 = .ok (.iload_n 1, 1) := by decide +kernel
theorem d_G_exchangeWithinWords_21 : decode b_G_exchangeWithinWords 21 = .ok (.ishl, 1) := by decide +kernel
theorem d_G_exchangeWithinWords_22 : decode b_G_exchangeWithinWords 22 = .ok (.isub, 1) := by decide +kernel
theorem d_G_exchangeWithinWords_23 : decode b_G_exchangeWithinWords 23 = .ok (.istore 5, 2) := by decide +kernel
theorem d_G_exchangeWithinWords_25 : decode b_G_exchangeWithinWords 25 = .ok (.iconst 0, 1) := by decide +kernel
theorem d_G_exchangeWithinWords_26 : decode b_G_exchangeWithinWords 26 = .ok (.istore 6, 2) := by decide +kernel
theorem d_G_exchangeWithinWords_28 : decode b_G_exchangeWithinWords 28 = .ok (.iload 6, 2) := by decide +kernel
theorem d_G_exchangeWithinWords_30 : decode b_G_exchangeWithinWords 30 = .ok (.bipush 16, 2) := by decide +kernel
theorem d_G_exchangeWithinWords_32 : decode b_G_exchangeWithinWords 32 = .ok (.if_icmp .ge 48, 3) := by decide +kernel
theorem d_G_exchangeWithinWords_35 : decode b_G_exchangeWithinWords 35 = .ok (.aload_n 0, 1) := by decide +kernel
theorem d_G_exchangeWithinWords_36 : decode b_G_exchangeWithinWords 36 = .ok (.getfield 31, 3) := by decide +kernel
theorem d_G_exchangeWithinWords_39 : decode b_G_exchangeWithinWords 39 = .ok (.iload 6, 2) := by decide +kernel
theorem d_G_exchangeWithinWords_41 : decode b_G_exchangeWithinWords 41 = .ok (.laload, 1) := by decide +kernel
theorem d_G_exchangeWithinWords_42 : decode b_G_exchangeWithinWords 42 = .ok (.lstore 7, 2) := by decide +kernel
theorem d_G_exchangeWithinWords_44 : decode b_G_exchangeWithinWords 44 = .ok (.lload 7, 2) := by decide +kernel
theorem d_G_exchangeWithinWords_46 : decode b_G_exchangeWithinWords 46 = .ok (.iload 5, 2) := by decide +kernel
theorem d_G_exchangeWithinWords_48 : decode b_G_exchangeWithinWords 48 = .ok (.lushr, 1) := by decide +kernel
theorem d_G_exchangeWithinWords_49 : decode b_G_exchangeWithinWords 49 = .ok (.lload 7, 2) := by decide +kernel
theorem d_G_exchangeWithinWords_51 : decode b_G_exchangeWithinWords 51 = .ok (.lxor, 1) := by decide +kernel
theorem d_G_exchangeWithinWords_52 : decode b_G_exchangeWithinWords 52 = .ok (.lload_n 3, 1) := by decide +kernel
theorem d_G_exchangeWithinWords_53 : decode b_G_exchangeWithinWords 53 = .ok (.land, 1) := by decide +kernel
theorem d_G_exchangeWithinWords_54 : decode b_G_exchangeWithinWords 54 = .ok (.lstore 9, 2) := by decide +kernel
theorem d_G_exchangeWithinWords_56 : decode b_G_exchangeWithinWords 56 = .ok (.aload_n 0, 1) := by decide +kernel
theorem d_G_exchangeWithinWords_57 : decode b_G_exchangeWithinWords 57 = .ok (.getfield 31, 3) := by decide +kernel
theorem d_G_exchangeWithinWords_60 : decode b_G_exchangeWithinWords 60 = .ok (.iload 6, 2) := by decide +kernel
theorem d_G_exchangeWithinWords_62 : decode b_G_exchangeWithinWords 62 = .ok (.lload 7, 2) := by decide +kernel
theorem d_G_exchangeWithinWords_64 : decode b_G_exchangeWithinWords 64 = .ok (.lload 9, 2) := by decide +kernel
theorem d_G_exchangeWithinWords_66 : decode b_G_exchangeWithinWords 66 = .ok (.lxor, 1) := by decide +kernel
theorem d_G_exchangeWithinWords_67 : decode b_G_exchangeWithinWords 67 = .ok (.lload 9, 2) := by decide +kernel
theorem d_G_exchangeWithinWords_69 : decode b_G_exchangeWithinWords 69 = .ok (.iload 5, 2) := by decide +kernel
theorem d_G_exchangeWithinWords_71 : decode b_G_exchangeWithinWords 71 = .ok (.lshl, 1) := by decide +kernel
theorem d_G_exchangeWithinWords_72 : decode b_G_exchangeWithinWords 72 = .ok (.lxor, 1) := by decide +kernel
theorem d_G_exchangeWithinWords_73 : decode b_G_exchangeWithinWords 73 = .ok (.lastore, 1) := by decide +kernel
theorem d_G_exchangeWithinWords_74 : decode b_G_exchangeWithinWords 74 = .ok (.iinc 6 1, 3) := by decide +kernel
theorem d_G_exchangeWithinWords_77 : decode b_G_exchangeWithinWords 77 = .ok (.goto (-49), 3) := by decide +kernel
theorem d_G_exchangeWithinWords_80 : decode b_G_exchangeWithinWords 80 = .ok (.return_, 1) := by decide +kernel
theorem d_G_exchangeAcrossWords_0 : decode b_G_exchangeAcrossWords 0 = .ok (.getstatic 115, 3) := by decide +kernel
theorem d_G_exchangeAcrossWords_3 : decode b_G_exchangeAcrossWords 3 = .ok (.iload_n 1, 1) := by decide +kernel
theorem d_G_exchangeAcrossWords_4 : decode b_G_exchangeAcrossWords 4 = .ok (.laload, 1) := by decide +kernel
theorem d_G_exchangeAcrossWords_5 : decode b_G_exchangeAcrossWords 5 = .ok (.ldc2_w 118, 3) := by decide +kernel
theorem d_G_exchangeAcrossWords_8 : decode b_G_exchangeAcrossWords 8 = .ok (.lxor, 1) := by decide +kernel
theorem d_G_exchangeAcrossWords_9 : decode b_G_exchangeAcrossWords 9 = .ok (.lstore_n 3, 1) := by decide +kernel
theorem d_G_exchangeAcrossWords_10 : decode b_G_exchangeAcrossWords 10 = .ok (.iconst 1, 1) := by decide +kernel
theorem d_G_exchangeAcrossWords_11 : decode b_G_exchangeAcrossWords 11 = .ok (.iload_n 1, 1) := by decide +kernel
theorem d_G_exchangeAcrossWords_12 : decode b_G_exchangeAcrossWords 12 = .ok (.ishl, 1) := by decide +kernel
theorem d_G_exchangeAcrossWords_13 : decode b_G_exchangeAcrossWords 13 = .ok (.istore 5, 2) := by decide +kernel
theorem d_G_exchangeAcrossWords_15 : decode b_G_exchangeAcrossWords 15 = .ok (.iconst 0, 1) := by decide +kernel
theorem d_G_exchangeAcrossWords_16 : decode b_G_exchangeAcrossWords 16 = .ok (.istore 6, 2) := by decide +kernel
theorem d_G_exchangeAcrossWords_18 : decode b_G_exchangeAcrossWords 18 = .ok (.iload 6, 2) := by decide +kernel
theorem d_G_exchangeAcrossWords_20 : decode b_G_exchangeAcrossWords 20 = .ok (.bipush 16, 2) := by decide +kernel
theorem d_G_exchangeAcrossWords_22 : decode b_G_exchangeAcrossWords 22 = .ok (.if_icmp .ge 71, 3) := by decide +kernel
theorem d_G_exchangeAcrossWords_25 : decode b_G_exchangeAcrossWords 25 = .ok (.aload_n 0, 1) := by decide +kernel
theorem d_G_exchangeAcrossWords_26 : decode b_G_exchangeAcrossWords 26 = .ok (.getfield 31, 3) := by decide +kernel
theorem d_G_exchangeAcrossWords_29 : decode b_G_exchangeAcrossWords 29 = .ok (.iload 6, 2) := by decide +kernel
theorem d_G_exchangeAcrossWords_31 : decode b_G_exchangeAcrossWords 31 = .ok (.laload, 1) := by decide +kernel
theorem d_G_exchangeAcrossWords_32 : decode b_G_exchangeAcrossWords 32 = .ok (.iload 5, 2) := by decide +kernel
theorem d_G_exchangeAcrossWords_34 : decode b_G_exchangeAcrossWords 34 = .ok (.lushr, 1) := by decide +kernel
theorem d_G_exchangeAcrossWords_35 : decode b_G_exchangeAcrossWords 35 = .ok (.aload_n 0, 1) := by decide +kernel
theorem d_G_exchangeAcrossWords_36 : decode b_G_exchangeAcrossWords 36 = .ok (.getfield 31, 3) := by decide +kernel
theorem d_G_exchangeAcrossWords_39 : decode b_G_exchangeAcrossWords 39 = .ok (.iload 6, 2) := by decide +kernel
theorem d_G_exchangeAcrossWords_41 : decode b_G_exchangeAcrossWords 41 = .ok (.iload_n 2, 1) := by decide +kernel
theorem d_G_exchangeAcrossWords_42 : decode b_G_exchangeAcrossWords 42 = .ok (.ior, 1) := by decide +kernel
theorem d_G_exchangeAcrossWords_43 : decode b_G_exchangeAcrossWords 43 = .ok (.laload, 1) := by decide +kernel
theorem d_G_exchangeAcrossWords_44 : decode b_G_exchangeAcrossWords 44 = .ok (.lxor, 1) := by decide +kernel
theorem d_G_exchangeAcrossWords_45 : decode b_G_exchangeAcrossWords 45 = .ok (.lload_n 3, 1) := by decide +kernel
theorem d_G_exchangeAcrossWords_46 : decode b_G_exchangeAcrossWords 46 = .ok (.land, 1) := by decide +kernel
theorem d_G_exchangeAcrossWords_47 : decode b_G_exchangeAcrossWords 47 = .ok (.lstore 7, 2) := by decide +kernel
theorem d_G_exchangeAcrossWords_49 : decode b_G_exchangeAcrossWords 49 = .ok (.aload_n 0, 1) := by decide +kernel
theorem d_G_exchangeAcrossWords_50 : decode b_G_exchangeAcrossWords 50 = .ok (.getfield 31, 3) := by decide +kernel
theorem d_G_exchangeAcrossWords_53 : decode b_G_exchangeAcrossWords 53 = .ok (.iload 6, 2) := by decide +kernel
theorem d_G_exchangeAcrossWords_55 : decode b_G_exchangeAcrossWords 55 = .ok (.dup2, 1) := by decide +kernel
theorem d_G_exchangeAcrossWords_56 : decode b_G_exchangeAcrossWords 56 = .ok (.laload, 1) := by decide +kernel
theorem d_G_exchangeAcrossWords_57 : decode b_G_exchangeAcrossWords 57 = .ok (.lload 7, 2) := by decide +kernel
theorem d_G_exchangeAcrossWords_59 : decode b_G_exchangeAcrossWords 59 = .ok (.iload 5, 2) := by decide +kernel
theorem d_G_exchangeAcrossWords_61 : decode b_G_exchangeAcrossWords 61 = .ok (.lshl, 1) := by decide +kernel
theorem d_G_exchangeAcrossWords_62 : decode b_G_exchangeAcrossWords 62 = .ok (.lxor, 1) := by decide +kernel
theorem d_G_exchangeAcrossWords_63 : decode b_G_exchangeAcrossWords 63 = .ok (.lastore, 1) := by decide +kernel
theorem d_G_exchangeAcrossWords_64 : decode b_G_exchangeAcrossWords 64 = .ok (.aload_n 0, 1) := by decide +kernel
theorem d_G_exchangeAcrossWords_65 : decode b_G_exchangeAcrossWords 65 = .ok (.getfield 31, 3) := by decide +kernel
theorem d_G_exchangeAcrossWords_68 : decode b_G_exchangeAcrossWords 68 = .ok (.iload 6, 2) := by decide +kernel
theorem d_G_exchangeAcrossWords_70 : decode b_G_exchangeAcrossWords 70 = .ok (.iload_n 2, 1) := by decide +kernel
theorem d_G_exchangeAcrossWords_71 : decode b_G_exchangeAcrossWords 71 = .ok (.ior, 1) := by decide +kernel
theorem d_G_exchangeAcrossWords_72 : decode b_G_exchangeAcrossWords 72 = .ok (.dup2, 1) := by decide +kernel
theorem d_G_exchangeAcrossWords_73 : decode b_G_exchangeAcrossWords 73 = .ok (.laload, 1) := by decide +kernel
theorem d_G_exchangeAcrossWords_74 : decode b_G_exchangeAcrossWords 74 = .ok (.lload 7, 2) := by decide +kernel
theorem d_G_exchangeAcrossWords_76 : decode b_G_exchangeAcrossWords 76 = .ok (.lxor, 1) := by decide +kernel
theorem d_G_exchangeAcrossWords_77 : decode b_G_exchangeAcrossWords 77 = .ok (.lastore, 1) := by decide +kernel
theorem d_G_exchangeAcrossWords_78 : decode b_G_exchangeAcrossWords 78 = .ok (.iload 6, 2) := by decide +kernel
theorem d_G_exchangeAcrossWords_80 : decode b_G_exchangeAcrossWords 80 = .ok (.iload_n 2, 1) := by decide +kernel
theorem d_G_exchangeAcrossWords_81 : decode b_G_exchangeAcrossWords 81 = .ok (.ior, 1) := by decide +kernel
theorem d_G_exchangeAcrossWords_82 : decode b_G_exchangeAcrossWords 82 = .ok (.iconst 1, 1) := by decide +kernel
theorem d_G_exchangeAcrossWords_83 : decode b_G_exchangeAcrossWords 83 = .ok (.iadd, 1) := by decide +kernel
theorem d_G_exchangeAcrossWords_84 : decode b_G_exchangeAcrossWords 84 = .ok (.iload_n 2, 1) := by decide +kernel
theorem d_G_exchangeAcrossWords_85 : decode b_G_exchangeAcrossWords 85 = .ok (.iconst (-1), 1) := by decide +kernel
theorem d_G_exchangeAcrossWords_86 : decode b_G_exchangeAcrossWords 86 = .ok (.ixor, 1) := by decide +kernel
theorem d_G_exchangeAcrossWords_87 : decode b_G_exchangeAcrossWords 87 = .ok (.iand, 1) := by decide +kernel
theorem d_G_exchangeAcrossWords_88 : decode b_G_exchangeAcrossWords 88 = .ok (.istore 6, 2) := by decide +kernel
theorem d_G_exchangeAcrossWords_90 : decode b_G_exchangeAcrossWords 90 = .ok (.goto (-72), 3) := by decide +kernel
theorem d_G_exchangeAcrossWords_93 : decode b_G_exchangeAcrossWords 93 = .ok (.return_, 1) := by decide +kernel
theorem d_G_exchangeWords_0 : decode b_G_exchangeWords 0 = .ok (.iload_n 1, 1) := by decide +kernel
theorem d_G_exchangeWords_1 : decode b_G_exchangeWords 1 = .ok (.iload_n 2, 1) := by decide +kernel
theorem d_G_exchangeWords_2 : decode b_G_exchangeWords 2 = .ok (.ior, 1) := by decide +kernel
theorem d_G_exchangeWords_3 : decode b_G_exchangeWords 3 = .ok (.istore_n 3, 1) := by decide +kernel
theorem d_G_exchangeWords_4 : decode b_G_exchangeWords 4 = .ok (.iconst 0, 1) := by decide +kernel
theorem d_G_exchangeWords_5 : decode b_G_exchangeWords 5 = .ok (.istore 4, 2) := by decide +kernel
theorem d_G_exchangeWords_7 : decode b_G_exchangeWords 7 = .ok (.iload 4, 2) := by decide +kernel
theorem d_G_exchangeWords_9 : decode b_G_exchangeWords 9 = .ok (.bipush 16, 2) := by decide +kernel
theorem d_G_exchangeWords_11 : decode b_G_exchangeWords 11 = .ok (.if_icmp .ge 58, 3) := by decide +kernel
theorem d_G_exchangeWords_14 : decode b_G_exchangeWords 14 = .ok (.aload_n 0, 1) := by decide +kernel
theorem d_G_exchangeWords_15 : decode b_G_exchangeWords 15 = .ok (.getfield 31, 3) := by decide +kernel
theorem d_G_exchangeWords_18 : decode b_G_exchangeWords 18 = .ok (.iload 4, 2) := by decide +kernel
theorem d_G_exchangeWords_20 : decode b_G_exchangeWords 20 = .ok (.iload_n 1, 1) := by decide +kernel
theorem d_G_exchangeWords_21 : decode b_G_exchangeWords 21 = .ok (.ior, 1) := by decide +kernel
theorem d_G_exchangeWords_22 : decode b_G_exchangeWords 22 = .ok (.laload, 1) := by decide +kernel
theorem d_G_exchangeWords_23 : decode b_G_exchangeWords 23 = .ok (.lstore 5, 2) := by decide +kernel
theorem d_G_exchangeWords_25 : decode b_G_exchangeWords 25 = .ok (.aload_n 0, 1) := by decide +kernel
theorem d_G_exchangeWords_26 : decode b_G_exchangeWords 26 = .ok (.getfield 31, 3) := by decide +kernel
theorem d_G_exchangeWords_29 : decode b_G_exchangeWords 29 = .ok (.iload 4, 2) := by decide +kernel
theorem d_G_exchangeWords_31 : decode b_G_exchangeWords 31 = .ok (.iload_n 1, 1) := by decide +kernel
theorem d_G_exchangeWords_32 : decode b_G_exchangeWords 32 = .ok (.ior, 1) := by decide +kernel
theorem d_G_exchangeWords_33 : decode b_G_exchangeWords 33 = .ok (.aload_n 0, 1) := by decide +kernel
theorem d_G_exchangeWords_34 : decode b_G_exchangeWords 34 = .ok (.getfield 31, 3) := by decide +kernel
theorem d_G_exchangeWords_37 : decode b_G_exchangeWords 37 = .ok (.iload 4, 2) := by decide +kernel
theorem d_G_exchangeWords_39 : decode b_G_exchangeWords 39 = .ok (.iload_n 2, 1) := by decide +kernel
theorem d_G_exchangeWords_40 : decode b_G_exchangeWords 40 = .ok (.ior, 1) := by decide +kernel
theorem d_G_exchangeWords_41 : decode b_G_exchangeWords 41 = .ok (.laload, 1) := by decide +kernel
theorem d_G_exchangeWords_42 : decode b_G_exchangeWords 42 = .ok (.lastore, 1) := by decide +kernel
theorem d_G_exchangeWords_43 : decode b_G_exchangeWords 43 = .ok (.aload_n 0, 1) := by decide +kernel
theorem d_G_exchangeWords_44 : decode b_G_exchangeWords 44 = .ok (.getfield 31, 3) := by decide +kernel
theorem d_G_exchangeWords_47 : decode b_G_exchangeWords 47 = .ok (.iload 4, 2) := by decide +kernel
theorem d_G_exchangeWords_49 : decode b_G_exchangeWords 49 = .ok (.iload_n 2, 1) := by decide +kernel
theorem d_G_exchangeWords_50 : decode b_G_exchangeWords 50 = .ok (.ior, 1) := by decide +kernel
theorem d_G_exchangeWords_51 : decode b_G_exchangeWords 51 = .ok (.lload 5, 2) := by decide +kernel
theorem d_G_exchangeWords_53 : decode b_G_exchangeWords 53 = .ok (.lastore, 1) := by decide +kernel
theorem d_G_exchangeWords_54 : decode b_G_exchangeWords 54 = .ok (.iload 4, 2) := by decide +kernel
theorem d_G_exchangeWords_56 : decode b_G_exchangeWords 56 = .ok (.iload_n 3, 1) := by decide +kernel
theorem d_G_exchangeWords_57 : decode b_G_exchangeWords 57 = .ok (.ior, 1) := by decide +kernel
theorem d_G_exchangeWords_58 : decode b_G_exchangeWords 58 = .ok (.iconst 1, 1) := by decide +kernel
theorem d_G_exchangeWords_59 : decode b_G_exchangeWords 59 = .ok (.iadd, 1) := by decide +kernel
theorem d_G_exchangeWords_60 : decode b_G_exchangeWords 60 = .ok (.iload_n 3, 1) := by decide +kernel
theorem d_G_exchangeWords_61 : decode b_G_exchangeWords 61 = .ok (.iconst (-1), 1) := by decide +kernel
theorem d_G_exchangeWords_62 : decode b_G_exchangeWords 62 = .ok (.ixor, 1) := by decide +kernel
theorem d_G_exchangeWords_63 : decode b_G_exchangeWords 63 = .ok (.iand, 1) := by decide +kernel
theorem d_G_exchangeWords_64 : decode b_G_exchangeWords 64 = .ok (.istore 4, 2) := by decide +kernel
theorem d_G_exchangeWords_66 : decode b_G_exchangeWords 66 = .ok (.goto (-59), 3) := by decide +kernel
theorem d_G_exchangeWords_69 : decode b_G_exchangeWords 69 = .ok (.return_, 1) := by decide +kernel
