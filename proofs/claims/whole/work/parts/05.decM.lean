theorem d_M_init_0 : decode b_M_init 0 = .ok (.aload_n 0, 1) := by decide +kernel
theorem d_M_init_1 : decode b_M_init 1 = .ok (.invokespecial 1, 3) := by decide +kernel
theorem d_M_init_4 : decode b_M_init 4 = .ok (.aload_n 0, 1) := by decide +kernel
theorem d_M_init_5 : decode b_M_init 5 = .ok (.sipush 24576, 3) := by decide +kernel
theorem d_M_init_8 : decode b_M_init 8 = .ok (.newarray .boolean, 2) := by decide +kernel
theorem d_M_init_10 : decode b_M_init 10 = .ok (.putfield 7, 3) := by decide +kernel
theorem d_M_init_13 : decode b_M_init 13 = .ok (.aload_n 0, 1) := by decide +kernel
theorem d_M_init_14 : decode b_M_init 14 = .ok (.sipush 1024, 3) := by decide +kernel
theorem d_M_init_17 : decode b_M_init 17 = .ok (.newarray .boolean, 2) := by decide +kernel
theorem d_M_init_19 : decode b_M_init 19 = .ok (.putfield 13, 3) := by decide +kernel
theorem d_M_init_22 : decode b_M_init 22 = .ok (.aload_n 0, 1) := by decide +kernel
theorem d_M_init_23 : decode b_M_init 23 = .ok (.bipush 10, 2) := by decide +kernel
theorem d_M_init_25 : decode b_M_init 25 = .ok (.newarray .int, 2) := by decide +kernel
theorem d_M_init_27 : decode b_M_init 27 = .ok (.putfield 16, 3) := by decide +kernel
theorem d_M_init_30 : decode b_M_init 30 = .ok (.aload_n 0, 1) := by decide +kernel
theorem d_M_init_31 : decode b_M_init 31 = .ok (.sipush 24576, 3) := by decide +kernel
theorem d_M_init_34 : decode b_M_init 34 = .ok (.newarray .int, 2) := by decide +kernel
theorem d_M_init_36 : decode b_M_init 36 = .ok (.putfield 20, 3) := by decide +kernel
theorem d_M_init_39 : decode b_M_init 39 = .ok (.aload_n 0, 1) := by decide +kernel
theorem d_M_init_40 : decode b_M_init 40 = .ok (.sipush 24576, 3) := by decide +kernel
theorem d_M_init_43 : decode b_M_init 43 = .ok (.newarray .int, 2) := by decide +kernel
theorem d_M_init_45 : decode b_M_init 45 = .ok (.putfield 23, 3) := by decide +kernel
theorem d_M_init_48 : decode b_M_init 48 = .ok (.aload_n 0, 1) := by decide +kernel
theorem d_M_init_49 : decode b_M_init 49 = .ok (.sipush 24576, 3) := by decide +kernel
theorem d_M_init_52 : decode b_M_init 52 = .ok (.newarray .int, 2) := by decide +kernel
theorem d_M_init_54 : decode b_M_init 54 = .ok (.putfield 26, 3) := by decide +kernel
theorem d_M_init_57 : decode b_M_init 57 = .ok (.aload_n 0, 1) := by decide +kernel
theorem d_M_init_58 : decode b_M_init 58 = .ok (.ldc 29, 2) := by decide +kernel
theorem d_M_init_60 : decode b_M_init 60 = .ok (.newarray .int, 2) := by decide +kernel
theorem d_M_init_62 : decode b_M_init 62 = .ok (.putfield 30, 3) := by decide +kernel
theorem d_M_init_65 : decode b_M_init 65 = .ok (.aload_n 0, 1) := by decide +kernel
theorem d_M_init_66 : decode b_M_init 66 = .ok (.ldc 29, 2) := by decide +kernel
theorem d_M_init_68 : decode b_M_init 68 = .ok (.newarray .int, 2) := by decide +kernel
theorem d_M_init_70 : decode b_M_init 70 = .ok (.putfield 33, 3) := by decide +kernel
theorem d_M_init_73 : decode b_M_init 73 = .ok (.aload_n 0, 1) := by decide +kernel
theorem d_M_init_74 : decode b_M_init 74 = .ok (.bipush 10, 2) := by decide +kernel
theorem d_M_init_76 : decode b_M_init 76 = .ok (.newarray .int, 2) := by decide +kernel
theorem d_M_init_78 : decode b_M_init 78 = .ok (.putfield 36, 3) := by decide +kernel
theorem d_M_init_81 : decode b_M_init 81 = .ok (.aload_n 0, 1) := by decide +kernel
theorem d_M_init_82 : decode b_M_init 82 = .ok (.bipush 10, 2) := by decide +kernel
theorem d_M_init_84 : decode b_M_init 84 = .ok (.newarray .int, 2) := by decide +kernel
theorem d_M_init_86 : decode b_M_init 86 = .ok (.putfield 39, 3) := by decide +kernel
theorem d_M_init_89 : decode b_M_init 89 = .ok (.aload_n 0, 1) := by decide +kernel
theorem d_M_init_90 : decode b_M_init 90 = .ok (.bipush 10, 2) := by decide +kernel
theorem d_M_init_92 : decode b_M_init 92 = .ok (.newarray .boolean, 2) := by decide +kernel
theorem d_M_init_94 : decode b_M_init 94 = .ok (.putfield 42, 3) := by decide +kernel
theorem d_M_init_97 : decode b_M_init 97 = .ok (.iconst 0, 1) := by decide +kernel
theorem d_M_init_98 : decode b_M_init 98 = .ok (.istore_n 1, 1) := by decide +kernel
theorem d_M_init_99 : decode b_M_init 99 = .ok (.iload_n 1, 1) := by decide +kernel
theorem d_M_init_100 : decode b_M_init 100 = .ok (.bipush 10, 2) := by decide +kernel
theorem d_M_init_102 : decode b_M_init 102 = .ok (.if_icmp .ge 16, 3) := by decide +kernel
theorem d_M_init_105 : decode b_M_init 105 = .ok (.aload_n 0, 1) := by decide +kernel
theorem d_M_init_106 : decode b_M_init 106 = .ok (.getfield 16, 3) := by decide +kernel
theorem d_M_init_109 : decode b_M_init 109 = .ok (.iload_n 1, 1) := by decide +kernel
theorem d_M_init_110 : decode b_M_init 110 = .ok (.iload_n 1, 1) := by decide +kernel
theorem d_M_init_111 : decode b_M_init 111 = .ok (.iastore, 1) := by decide +kernel
theorem d_M_init_112 : decode b_M_init 112 = .ok (.iinc 1 1, 3) := by decide +kernel
theorem d_M_init_115 : decode b_M_init 115 = .ok (.goto (-16), 3) := by decide +kernel
theorem d_M_init_118 : decode b_M_init 118 = .ok (.return_, 1) := by decide +kernel
theorem d_M_thrown_0 : decode b_M_thrown 0 = .ok (.aload_n 0, 1) := by decide +kernel
theorem d_M_thrown_1 : decode b_M_thrown 1 = .ok (.getfield 45, 3) := by decide +kernel
theorem d_M_thrown_4 : decode b_M_thrown 4 = .ok (.ireturn, 1) := by decide +kernel
theorem d_M_refuse_0 : decode b_M_refuse 0 = .ok (.aload_n 0, 1) := by decide +kernel
theorem d_M_refuse_1 : decode b_M_refuse 1 = .ok (.iload_n 1, 1) := by decide +kernel
theorem d_M_refuse_2 : decode b_M_refuse 2 = .ok (.ifCond .eq 7, 3) := by decide +kernel
theorem d_M_refuse_5 : decode b_M_refuse 5 = .ok (.iconst 1, 1) := by decide +kernel
theorem d_M_refuse_6 : decode b_M_refuse 6 = .ok (.goto 12, 3) := by decide +kernel
theorem d_M_refuse_9 : decode b_M_refuse 9 = .ok (.iload_n 2, 1) := by decide +kernel
theorem d_M_refuse_10 : decode b_M_refuse 10 = .ok (.ifCond .eq 7, 3) := by decide +kernel
theorem d_M_refuse_13 : decode b_M_refuse 13 = .ok (.iconst 2, 1) := by decide +kernel
theorem d_M_refuse_14 : decode b_M_refuse 14 = .ok (.goto 4, 3) := by decide +kernel
theorem d_M_refuse_17 : decode b_M_refuse 17 = .ok (.iconst 0, 1) := by decide +kernel
theorem d_M_refuse_18 : decode b_M_refuse 18 = .ok (.putfield 45, 3) := by decide +kernel
theorem d_M_refuse_21 : decode b_M_refuse 21 = .ok (.aload_n 0, 1) := by decide +kernel
theorem d_M_refuse_22 : decode b_M_refuse 22 = .ok (.getfield 45, 3) := by decide +kernel
theorem d_M_refuse_25 : decode b_M_refuse 25 = .ok (.ifCond .le 7, 3) := by decide +kernel
theorem d_M_refuse_28 : decode b_M_refuse 28 = .ok (.iconst 1, 1) := by decide +kernel
theorem d_M_refuse_29 : decode b_M_refuse 29 = .ok (.goto 4, 3) := by decide +kernel
theorem d_M_refuse_32 : decode b_M_refuse 32 = .ok (.iconst 0, 1) := by decide +kernel
theorem d_M_refuse_33 : decode b_M_refuse 33 = .ok (.ireturn, 1) := by decide +kernel
theorem d_M_in_0 : decode b_M_in 0 = .ok (.iload_n 0, 1) := by decide +kernel
theorem d_M_in_1 : decode b_M_in 1 = .ok (.iload_n 1, 1) := by decide +kernel
theorem d_M_in_2 : decode b_M_in 2 = .ok (.if_icmp .lt 12, 3) := by decide +kernel
theorem d_M_in_5 : decode b_M_in 5 = .ok (.iload_n 0, 1) := by decide +kernel
theorem d_M_in_6 : decode b_M_in 6 = .ok (.iload_n 2, 1) := by decide +kernel
theorem d_M_in_7 : decode b_M_in 7 = .ok (.if_icmp .gt 7, 3) := by decide +kernel
theorem d_M_in_10 : decode b_M_in 10 = .ok (.iconst 1, 1) := by decide +kernel
theorem d_M_in_11 : decode b_M_in 11 = .ok (.goto 4, 3) := by decide +kernel
theorem d_M_in_14 : decode b_M_in 14 = .ok (.iconst 0, 1) := by decide +kernel
theorem d_M_in_15 : decode b_M_in 15 = .ok (.ireturn, 1) := by decide +kernel
theorem d_M_isPlace_0 : decode b_M_isPlace 0 = .ok (.iload_n 0, 1) := by decide +kernel
theorem d_M_isPlace_1 : decode b_M_isPlace 1 = .ok (.iconst 0, 1) := by decide +kernel
theorem d_M_isPlace_2 : decode b_M_isPlace 2 = .ok (.bipush 23, 2) := by decide +kernel
theorem d_M_isPlace_4 : decode b_M_isPlace 4 = .ok (.invokestatic 49, 3) := by decide +kernel
theorem d_M_isPlace_7 : decode b_M_isPlace 7 = .ok (.ireturn, 1) := by decide +kernel
theorem d_M_isInput_0 : decode b_M_isInput 0 = .ok (.iload_n 0, 1) := by decide +kernel
theorem d_M_isInput_1 : decode b_M_isInput 1 = .ok (.iconst 0, 1) := by decide +kernel
theorem d_M_isInput_2 : decode b_M_isInput 2 = .ok (.bipush 9, 2) := by decide +kernel
theorem d_M_isInput_4 : decode b_M_isInput 4 = .ok (.invokestatic 49, 3) := by decide +kernel
theorem d_M_isInput_7 : decode b_M_isInput 7 = .ok (.ireturn, 1) := by decide +kernel
theorem d_M_is_0 : decode b_M_is 0 = .ok (.aload_n 0, 1) := by decide +kernel
theorem d_M_is_1 : decode b_M_is 1 = .ok (.getfield 7, 3) := by decide +kernel
theorem d_M_is_4 : decode b_M_is 4 = .ok (.sipush 1024, 3) := by decide +kernel
theorem d_M_is_7 : decode b_M_is 7 = .ok (.iload_n 1, 1) := by decide +kernel
theorem d_M_is_8 : decode b_M_is 8 = .ok (.imul, 1) := by decide +kernel
theorem d_M_is_9 : decode b_M_is 9 = .ok (.iload_n 2, 1) := by decide +kernel
theorem d_M_is_10 : decode b_M_is 10 = .ok (.iadd, 1) := by decide +kernel
theorem d_M_is_11 : decode b_M_is 11 = .ok (.baload, 1) := by decide +kernel
theorem d_M_is_12 : decode b_M_is 12 = .ok (.ireturn, 1) := by decide +kernel
theorem d_M_take_0 : decode b_M_take 0 = .ok (.iconst 0, 1) := by decide +kernel
theorem d_M_take_1 : decode b_M_take 1 = .ok (.istore_n 2, 1) := by decide +kernel
theorem d_M_take_2 : decode b_M_take 2 = .ok (.iload_n 2, 1) := by decide +kernel
theorem d_M_take_3 : decode b_M_take 3 = .ok (.sipush 1024, 3) := by decide +kernel
theorem d_M_take_6 : decode b_M_take 6 = .ok (.if_icmp .ge 27, 3) := by decide +kernel
theorem d_M_take_9 : decode b_M_take 9 = .ok (.aload_n 0, 1) := by decide +kernel
theorem d_M_take_10 : decode b_M_take 10 = .ok (.getfield 7, 3) := by decide +kernel
theorem d_M_take_13 : decode b_M_take 13 = .ok (.sipush 1024, 3) := by decide +kernel
theorem d_M_take_16 : decode b_M_take 16 = .ok (.iload_n 1, 1) := by decide +kernel
theorem d_M_take_17 : decode b_M_take 17 = .ok (.imul, 1) := by decide +kernel
theorem d_M_take_18 : decode b_M_take 18 = .ok (.iload_n 2, 1) := by decide +kernel
theorem d_M_take_19 : decode b_M_take 19 = .ok (.iadd, 1) := by decide +kernel
theorem d_M_take_20 : decode b_M_take 20 = .ok (.aload_n 0, 1) := by decide +kernel
theorem d_M_take_21 : decode b_M_take 21 = .ok (.getfield 13, 3) := by decide +kernel
theorem d_M_take_24 : decode b_M_take 24 = .ok (.iload_n 2, 1) := by decide +kernel
theorem d_M_take_25 : decode b_M_take 25 = .ok (.baload, 1) := by decide +kernel
theorem d_M_take_26 : decode b_M_take 26 = .ok (.bastore, 1) := by decide +kernel
theorem d_M_take_27 : decode b_M_take 27 = .ok (.iinc 2 1, 3) := by decide +kernel
theorem d_M_take_30 : decode b_M_take 30 = .ok (.goto (-28), 3) := by decide +kernel
theorem d_M_take_33 : decode b_M_take 33 = .ok (.return_, 1) := by decide +kernel
theorem d_M_constant_0 : decode b_M_constant 0 = .ok (.aload_n 0, 1) := by decide +kernel
theorem d_M_constant_1 : decode b_M_constant 1 = .ok (.iload_n 1, 1) := by decide +kernel
theorem d_M_constant_2 : decode b_M_constant 2 = .ok (.invokestatic 53, 3) := by decide +kernel
theorem d_M_constant_5 : decode b_M_constant 5 = .ok (.ifCond .ne 7, 3) := by decide +kernel
theorem d_M_constant_8 : decode b_M_constant 8 = .ok (.iconst 1, 1) := by decide +kernel
theorem d_M_constant_9 : decode b_M_constant 9 = .ok (.goto 4, 3) := by decide +kernel
theorem d_M_constant_12 : decode b_M_constant 12 = .ok (.iconst 0, 1) := by decide +kernel
theorem d_M_constant_13 : decode b_M_constant 13 = .ok (.iload_n 1, 1) := by decide +kernel
theorem d_M_constant_14 : decode b_M_constant 14 = .ok (.invokestatic 53, 3) := by decide +kernel
theorem d_M_constant_17 : decode b_M_constant 17 = .ok (.ifCond .eq 16, 3) := by decide +kernel
theorem d_M_constant_20 : decode b_M_constant 20 = .ok (.iload_n 2, 1) := by decide +kernel
theorem d_M_constant_21 : decode b_M_constant 21 = .ok (.iconst 0, 1) := by decide +kernel
theorem d_M_constant_22 : decode b_M_constant 22 = .ok (.iconst 1, 1) := by decide +kernel
theorem d_M_constant_23 : decode b_M_constant 23 = .ok (.invokestatic 49, 3) := by decide +kernel
theorem d_M_constant_26 : decode b_M_constant 26 = .ok (.ifCond .ne 7, 3) := by decide +kernel
theorem d_M_constant_29 : decode b_M_constant 29 = .ok (.iconst 1, 1) := by decide +kernel
theorem d_M_constant_30 : decode b_M_constant 30 = .ok (.goto 4, 3) := by decide +kernel
theorem d_M_constant_33 : decode b_M_constant 33 = .ok (.iconst 0, 1) := by decide +kernel
theorem d_M_constant_34 : decode b_M_constant 34 = .ok (.invokevirtual 57, 3) := by decide +kernel
theorem d_M_constant_37 : decode b_M_constant 37 = .ok (.ifCond .ne 40, 3) := by decide +kernel
theorem d_M_constant_40 : decode b_M_constant 40 = .ok (.iconst 0, 1) := by decide +kernel
theorem d_M_constant_41 : decode b_M_constant 41 = .ok (.istore_n 3, 1) := by decide +kernel
theorem d_M_constant_42 : decode b_M_constant 42 = .ok (.iload_n 3, 1) := by decide +kernel
theorem d_M_constant_43 : decode b_M_constant 43 = .ok (.sipush 1024, 3) := by decide +kernel
theorem d_M_constant_46 : decode b_M_constant 46 = .ok (.if_icmp .ge 31, 3) := by decide +kernel
theorem d_M_constant_49 : decode b_M_constant 49 = .ok (.aload_n 0, 1) := by decide +kernel
theorem d_M_constant_50 : decode b_M_constant 50 = .ok (.getfield 7, 3) := by decide +kernel
theorem d_M_constant_53 : decode b_M_constant 53 = .ok (.sipush 1024, 3) := by decide +kernel
theorem d_M_constant_56 : decode b_M_constant 56 = .ok (.iload_n 1, 1) := by decide +kernel
theorem d_M_constant_57 : decode b_M_constant 57 = .ok (.imul, 1) := by decide +kernel
theorem d_M_constant_58 : decode b_M_constant 58 = .ok (.iload_n 3, 1) := by decide +kernel
theorem d_M_constant_59 : decode b_M_constant 59 = .ok (.iadd, 1) := by decide +kernel
theorem d_M_constant_60 : decode b_M_constant 60 = .ok (.iload_n 2, 1) := by decide +kernel
theorem d_M_constant_61 : decode b_M_constant 61 = .ok (.iconst 1, 1) := by decide +kernel
theorem d_M_constant_62 : decode b_M_constant 62 = .ok (.if_icmp .ne 7, 3) := by decide +kernel
theorem d_M_constant_65 : decode b_M_constant 65 = .ok (.iconst 1, 1) := by decide +kernel
theorem d_M_constant_66 : decode b_M_constant 66 = .ok (.goto 4, 3) := by decide +kernel
theorem d_M_constant_69 : decode b_M_constant 69 = .ok (.iconst 0, 1) := by decide +kernel
theorem d_M_constant_70 : decode b_M_constant 70 = .ok (.bastore, 1) := by decide +kernel
theorem d_M_constant_71 : decode b_M_constant 71 = .ok (.iinc 3 1, 3) := by decide +kernel
theorem d_M_constant_74 : decode b_M_constant 74 = .ok (.goto (-32), 3) := by decide +kernel
theorem d_M_constant_77 : decode b_M_constant 77 = .ok (.return_, 1) := by decide +kernel
theorem d_M_input_0 : decode b_M_input 0 = .ok (.aload_n 0, 1) := by decide +kernel
theorem d_M_input_1 : decode b_M_input 1 = .ok (.iload_n 1, 1) := by decide +kernel
theorem d_M_input_2 : decode b_M_input 2 = .ok (.invokestatic 53, 3) := by decide +kernel
theorem d_M_input_5 : decode b_M_input 5 = .ok (.ifCond .ne 7, 3) := by decide +kernel
theorem d_M_input_8 : decode b_M_input 8 = .ok (.iconst 1, 1) := by decide +kernel
theorem d_M_input_9 : decode b_M_input 9 = .ok (.goto 4, 3) := by decide +kernel
theorem d_M_input_12 : decode b_M_input 12 = .ok (.iconst 0, 1) := by decide +kernel
theorem d_M_input_13 : decode b_M_input 13 = .ok (.iload_n 1, 1) := by decide +kernel
theorem d_M_input_14 : decode b_M_input 14 = .ok (.invokestatic 53, 3) := by decide +kernel
theorem d_M_input_17 : decode b_M_input 17 = .ok (.ifCond .eq 14, 3) := by decide +kernel
theorem d_M_input_20 : decode b_M_input 20 = .ok (.iload_n 2, 1) := by decide +kernel
theorem d_M_input_21 : decode b_M_input 21 = .ok (.invokestatic 61, 3) := by decide +kernel
theorem d_M_input_24 : decode b_M_input 24 = .ok (.ifCond .ne 7, 3) := by decide +kernel
theorem d_M_input_27 : decode b_M_input 27 = .ok (.iconst 1, 1) := by decide +kernel
theorem d_M_input_28 : decode b_M_input 28 = .ok (.goto 4, 3) := by decide +kernel
theorem d_M_input_31 : decode b_M_input 31 = .ok (.iconst 0, 1) := by decide +kernel
theorem d_M_input_32 : decode b_M_input 32 = .ok (.invokevirtual 57, 3) := by decide +kernel
theorem d_M_input_35 : decode b_M_input 35 = .ok (.ifCond .ne 44, 3) := by decide +kernel
theorem d_M_input_38 : decode b_M_input 38 = .ok (.iconst 0, 1) := by decide +kernel
theorem d_M_input_39 : decode b_M_input 39 = .ok (.istore_n 3, 1) := by decide +kernel
theorem d_M_input_40 : decode b_M_input 40 = .ok (.iload_n 3, 1) := by decide +kernel
theorem d_M_input_41 : decode b_M_input 41 = .ok (.sipush 1024, 3) := by decide +kernel
theorem d_M_input_44 : decode b_M_input 44 = .ok (.if_icmp .ge 35, 3) := by decide +kernel
theorem d_M_input_47 : decode b_M_input 47 = .ok (.aload_n 0, 1) := by decide +kernel
theorem d_M_input_48 : decode b_M_input 48 = .ok (.getfield 7, 3) := by decide +kernel
theorem d_M_input_51 : decode b_M_input 51 = .ok (.sipush 1024, 3) := by decide +kernel
theorem d_M_input_54 : decode b_M_input 54 = .ok (.iload_n 1, 1) := by decide +kernel
theorem d_M_input_55 : decode b_M_input 55 = .ok (.imul, 1) := by decide +kernel
theorem d_M_input_56 : decode b_M_input 56 = .ok (.iload_n 3, 1) := by decide +kernel
theorem d_M_input_57 : decode b_M_input 57 = .ok (.iadd, 1) := by decide +kernel
theorem d_M_input_58 : decode b_M_input 58 = .ok (.iload_n 3, 1) := by decide +kernel
theorem d_M_input_59 : decode b_M_input 59 = .ok (.iload_n 2, 1) := by decide +kernel
theorem d_M_input_60 : decode b_M_input 60 = .ok (.ishr, 1) := by decide +kernel
theorem d_M_input_61 : decode b_M_input 61 = .ok (.iconst 1, 1) := by decide +kernel
theorem d_M_input_62 : decode b_M_input 62 = .ok (.iand, 1) := by decide +kernel
theorem d_M_input_63 : decode b_M_input 63 = .ok (.iconst 1, 1) := by decide +kernel
theorem d_M_input_64 : decode b_M_input 64 = .ok (.if_icmp .ne 7, 3) := by decide +kernel
theorem d_M_input_67 : decode b_M_input 67 = .ok (.iconst 1, 1) := by decide +kernel
theorem d_M_input_68 : decode b_M_input 68 = .ok (.goto 4, 3) := by decide +kernel
theorem d_M_input_71 : decode b_M_input 71 = .ok (.iconst 0, 1) := by decide +kernel
theorem d_M_input_72 : decode b_M_input 72 = .ok (.bastore, 1) := by decide +kernel
theorem d_M_input_73 : decode b_M_input 73 = .ok (.iinc 3 1, 3) := by decide +kernel
theorem d_M_input_76 : decode b_M_input 76 = .ok (.goto (-36), 3) := by decide +kernel
theorem d_M_input_79 : decode b_M_input 79 = .ok (.return_, 1) := by decide +kernel
theorem d_M_two_0 : decode b_M_two 0 = .ok (.iload_n 0, 1) := by decide +kernel
theorem d_M_two_1 : decode b_M_two 1 = .ok (.tableswitch 99 0 4 #[35, 49, 63, 74, 88], 35) := by decide +kernel
theorem d_M_two_36 : decode b_M_two 36 = .ok (.iload_n 1, 1) := by decide +kernel
theorem d_M_two_37 : decode b_M_two 37 = .ok (.ifCond .eq 11, 3) := by decide +kernel
theorem d_M_two_40 : decode b_M_two 40 = .ok (.iload_n 2, 1) := by decide +kernel
theorem d_M_two_41 : decode b_M_two 41 = .ok (.ifCond .eq 7, 3) := by decide +kernel
theorem d_M_two_44 : decode b_M_two 44 = .ok (.iconst 1, 1) := by decide +kernel
theorem d_M_two_45 : decode b_M_two 45 = .ok (.goto 4, 3) := by decide +kernel
theorem d_M_two_48 : decode b_M_two 48 = .ok (.iconst 0, 1) := by decide +kernel
theorem d_M_two_49 : decode b_M_two 49 = .ok (.ireturn, 1) := by decide +kernel
theorem d_M_two_50 : decode b_M_two 50 = .ok (.iload_n 1, 1) := by decide +kernel
theorem d_M_two_51 : decode b_M_two 51 = .ok (.ifCond .ne 7, 3) := by decide +kernel
theorem d_M_two_54 : decode b_M_two 54 = .ok (.iload_n 2, 1) := by decide +kernel
theorem d_M_two_55 : decode b_M_two 55 = .ok (.ifCond .eq 7, 3) := by decide +kernel
theorem d_M_two_58 : decode b_M_two 58 = .ok (.iconst 1, 1) := by decide +kernel
theorem d_M_two_59 : decode b_M_two 59 = .ok (.goto 4, 3) := by decide +kernel
theorem d_M_two_62 : decode b_M_two 62 = .ok (.iconst 0, 1) := by decide +kernel
theorem d_M_two_63 : decode b_M_two 63 = .ok (.ireturn, 1) := by decide +kernel
theorem d_M_two_64 : decode b_M_two 64 = .ok (.iload_n 1, 1) := by decide +kernel
theorem d_M_two_65 : decode b_M_two 65 = .ok (.iload_n 2, 1) := by decide +kernel
theorem d_M_two_66 : decode b_M_two 66 = .ok (.if_icmp .eq 7, 3) := by decide +kernel
theorem d_M_two_69 : decode b_M_two 69 = .ok (.iconst 1, 1) := by decide +kernel
theorem d_M_two_70 : decode b_M_two 70 = .ok (.goto 4, 3) := by decide +kernel
theorem d_M_two_73 : decode b_M_two 73 = .ok (.iconst 0, 1) := by decide +kernel
theorem d_M_two_74 : decode b_M_two 74 = .ok (.ireturn, 1) := by decide +kernel
theorem d_M_two_75 : decode b_M_two 75 = .ok (.iload_n 1, 1) := by decide +kernel
theorem d_M_two_76 : decode b_M_two 76 = .ok (.ifCond .eq 7, 3) := by decide +kernel
theorem d_M_two_79 : decode b_M_two 79 = .ok (.iload_n 2, 1) := by decide +kernel
theorem d_M_two_80 : decode b_M_two 80 = .ok (.ifCond .eq 7, 3) := by decide +kernel
theorem d_M_two_83 : decode b_M_two 83 = .ok (.iconst 1, 1) := by decide +kernel
theorem d_M_two_84 : decode b_M_two 84 = .ok (.goto 4, 3) := by decide +kernel
theorem d_M_two_87 : decode b_M_two 87 = .ok (.iconst 0, 1) := by decide +kernel
theorem d_M_two_88 : decode b_M_two 88 = .ok (.ireturn, 1) := by decide +kernel
theorem d_M_two_89 : decode b_M_two 89 = .ok (.iload_n 1, 1) := by decide +kernel
theorem d_M_two_90 : decode b_M_two 90 = .ok (.iload_n 2, 1) := by decide +kernel
theorem d_M_two_91 : decode b_M_two 91 = .ok (.if_icmp .ne 7, 3) := by decide +kernel
theorem d_M_two_94 : decode b_M_two 94 = .ok (.iconst 1, 1) := by decide +kernel
theorem d_M_two_95 : decode b_M_two 95 = .ok (.goto 4, 3) := by decide +kernel
theorem d_M_two_98 : decode b_M_two 98 = .ok (.iconst 0, 1) := by decide +kernel
theorem d_M_two_99 : decode b_M_two 99 = .ok (.ireturn, 1) := by decide +kernel
theorem d_M_two_100 : decode b_M_two 100 = .ok (.iload_n 1, 1) := by decide +kernel
theorem d_M_two_101 : decode b_M_two 101 = .ok (.ifCond .eq 11, 3) := by decide +kernel
theorem d_M_two_104 : decode b_M_two 104 = .ok (.iload_n 2, 1) := by decide +kernel
theorem d_M_two_105 : decode b_M_two 105 = .ok (.ifCond .ne 7, 3) := by decide +kernel
theorem d_M_two_108 : decode b_M_two 108 = .ok (.iconst 1, 1) := by decide +kernel
theorem d_M_two_109 : decode b_M_two 109 = .ok (.goto 4, 3) := by decide +kernel
theorem d_M_two_112 : decode b_M_two 112 = .ok (.iconst 0, 1) := by decide +kernel
theorem d_M_two_113 : decode b_M_two 113 = .ok (.ireturn, 1) := by decide +kernel
theorem d_M_make_0 : decode b_M_make 0 = .ok (.iload_n 1, 1) := by decide +kernel
theorem d_M_make_1 : decode b_M_make 1 = .ok (.invokestatic 53, 3) := by decide +kernel
theorem d_M_make_4 : decode b_M_make 4 = .ok (.ifCond .eq 22, 3) := by decide +kernel
theorem d_M_make_7 : decode b_M_make 7 = .ok (.iload_n 3, 1) := by decide +kernel
theorem d_M_make_8 : decode b_M_make 8 = .ok (.invokestatic 53, 3) := by decide +kernel
theorem d_M_make_11 : decode b_M_make 11 = .ok (.ifCond .eq 15, 3) := by decide +kernel
theorem d_M_make_14 : decode b_M_make 14 = .ok (.iload 4, 2) := by decide +kernel
theorem d_M_make_16 : decode b_M_make 16 = .ok (.invokestatic 53, 3) := by decide +kernel
theorem d_M_make_19 : decode b_M_make 19 = .ok (.ifCond .eq 7, 3) := by decide +kernel
theorem d_M_make_22 : decode b_M_make 22 = .ok (.iconst 1, 1) := by decide +kernel
theorem d_M_make_23 : decode b_M_make 23 = .ok (.goto 4, 3) := by decide +kernel
theorem d_M_make_26 : decode b_M_make 26 = .ok (.iconst 0, 1) := by decide +kernel
theorem d_M_make_27 : decode b_M_make 27 = .ok (.istore 5, 2) := by decide +kernel
theorem d_M_make_29 : decode b_M_make 29 = .ok (.aload_n 0, 1) := by decide +kernel
theorem d_M_make_30 : decode b_M_make 30 = .ok (.iload 5, 2) := by decide +kernel
theorem d_M_make_32 : decode b_M_make 32 = .ok (.ifCond .ne 7, 3) := by decide +kernel
theorem d_M_make_35 : decode b_M_make 35 = .ok (.iconst 1, 1) := by decide +kernel
theorem d_M_make_36 : decode b_M_make 36 = .ok (.goto 4, 3) := by decide +kernel
theorem d_M_make_39 : decode b_M_make 39 = .ok (.iconst 0, 1) := by decide +kernel
theorem d_M_make_40 : decode b_M_make 40 = .ok (.iload 5, 2) := by decide +kernel
theorem d_M_make_42 : decode b_M_make 42 = .ok (.ifCond .eq 16, 3) := by decide +kernel
theorem d_M_make_45 : decode b_M_make 45 = .ok (.iload_n 2, 1) := by decide +kernel
theorem d_M_make_46 : decode b_M_make 46 = .ok (.iconst 0, 1) := by decide +kernel
theorem d_M_make_47 : decode b_M_make 47 = .ok (.iconst 5, 1) := by decide +kernel
theorem d_M_make_48 : decode b_M_make 48 = .ok (.invokestatic 49, 3) := by decide +kernel
theorem d_M_make_51 : decode b_M_make 51 = .ok (.ifCond .ne 7, 3) := by decide +kernel
theorem d_M_make_54 : decode b_M_make 54 = .ok (.iconst 1, 1) := by decide +kernel
theorem d_M_make_55 : decode b_M_make 55 = .ok (.goto 4, 3) := by decide +kernel
theorem d_M_make_58 : decode b_M_make 58 = .ok (.iconst 0, 1) := by decide +kernel
theorem d_M_make_59 : decode b_M_make 59 = .ok (.invokevirtual 57, 3) := by decide +kernel
theorem d_M_make_62 : decode b_M_make 62 = .ok (.ifCond .ne 51, 3) := by decide +kernel
theorem d_M_make_65 : decode b_M_make 65 = .ok (.iconst 0, 1) := by decide +kernel
theorem d_M_make_66 : decode b_M_make 66 = .ok (.istore 6, 2) := by decide +kernel
theorem d_M_make_68 : decode b_M_make 68 = .ok (.iload 6, 2) := by decide +kernel
theorem d_M_make_70 : decode b_M_make 70 = .ok (.sipush 1024, 3) := by decide +kernel
theorem d_M_make_73 : decode b_M_make 73 = .ok (.if_icmp .ge 35, 3) := by decide +kernel
theorem d_M_make_76 : decode b_M_make 76 = .ok (.aload_n 0, 1) := by decide +kernel
theorem d_M_make_77 : decode b_M_make 77 = .ok (.getfield 13, 3) := by decide +kernel
theorem d_M_make_80 : decode b_M_make 80 = .ok (.iload 6, 2) := by decide +kernel
theorem d_M_make_82 : decode b_M_make 82 = .ok (.iload_n 2, 1) := by decide +kernel
theorem d_M_make_83 : decode b_M_make 83 = .ok (.aload_n 0, 1) := by decide +kernel
theorem d_M_make_84 : decode b_M_make 84 = .ok (.iload_n 3, 1) := by decide +kernel
theorem d_M_make_85 : decode b_M_make 85 = .ok (.iload 6, 2) := by decide +kernel
theorem d_M_make_87 : decode b_M_make 87 = .ok (.invokevirtual 64, 3) := by decide +kernel
theorem d_M_make_90 : decode b_M_make 90 = .ok (.aload_n 0, 1) := by decide +kernel
theorem d_M_make_91 : decode b_M_make 91 = .ok (.iload 4, 2) := by decide +kernel
theorem d_M_make_93 : decode b_M_make 93 = .ok (.iload 6, 2) := by decide +kernel
theorem d_M_make_95 : decode b_M_make 95 = .ok (.invokevirtual 64, 3) := by decide +kernel
theorem d_M_make_98 : decode b_M_make 98 = .ok (.invokestatic 68, 3) := by decide +kernel
theorem d_M_make_101 : decode b_M_make 101 = .ok (.bastore, 1) := by decide +kernel
theorem d_M_make_102 : decode b_M_make 102 = .ok (.iinc 6 1, 3) := by decide +kernel
theorem d_M_make_105 : decode b_M_make 105 = .ok (.goto (-37), 3) := by decide +kernel
theorem d_M_make_108 : decode b_M_make 108 = .ok (.aload_n 0, 1) := by decide +kernel
theorem d_M_make_109 : decode b_M_make 109 = .ok (.iload_n 1, 1) := by decide +kernel
theorem d_M_make_110 : decode b_M_make 110 = .ok (.invokevirtual 72, 3) := by decide +kernel
theorem d_M_make_113 : decode b_M_make 113 = .ok (.return_, 1) := by decide +kernel
theorem d_M_choose_0 : decode b_M_choose 0 = .ok (.aload_n 0, 1) := by decide +kernel
theorem d_M_choose_1 : decode b_M_choose 1 = .ok (.iload_n 1, 1) := by decide +kernel
theorem d_M_choose_2 : decode b_M_choose 2 = .ok (.invokestatic 53, 3) := by decide +kernel
theorem d_M_choose_5 : decode b_M_choose 5 = .ok (.ifCond .eq 25, 3) := by decide +kernel
theorem d_M_choose_8 : decode b_M_choose 8 = .ok (.iload_n 2, 1) := by decide +kernel
theorem d_M_choose_9 : decode b_M_choose 9 = .ok (.invokestatic 53, 3) := by decide +kernel
theorem d_M_choose_12 : decode b_M_choose 12 = .ok (.ifCond .eq 18, 3) := by decide +kernel
theorem d_M_choose_15 : decode b_M_choose 15 = .ok (.iload_n 3, 1) := by decide +kernel
theorem d_M_choose_16 : decode b_M_choose 16 = .ok (.invokestatic 53, 3) := by decide +kernel
theorem d_M_choose_19 : decode b_M_choose 19 = .ok (.ifCond .eq 11, 3) := by decide +kernel
theorem d_M_choose_22 : decode b_M_choose 22 = .ok (.iload 4, 2) := by decide +kernel
theorem d_M_choose_24 : decode b_M_choose 24 = .ok (.invokestatic 53, 3) := by decide +kernel
theorem d_M_choose_27 : decode b_M_choose 27 = .ok (.ifCond .ne 7, 3) := by decide +kernel
theorem d_M_choose_30 : decode b_M_choose 30 = .ok (.iconst 1, 1) := by decide +kernel
theorem d_M_choose_31 : decode b_M_choose 31 = .ok (.goto 4, 3) := by decide +kernel
theorem d_M_choose_34 : decode b_M_choose 34 = .ok (.iconst 0, 1) := by decide +kernel
theorem d_M_choose_35 : decode b_M_choose 35 = .ok (.iconst 0, 1) := by decide +kernel
theorem d_M_choose_36 : decode b_M_choose 36 = .ok (.invokevirtual 57, 3) := by decide +kernel
theorem d_M_choose_39 : decode b_M_choose 39 = .ok (.ifCond .ne 60, 3) := by decide +kernel
theorem d_M_choose_42 : decode b_M_choose 42 = .ok (.iconst 0, 1) := by decide +kernel
theorem d_M_choose_43 : decode b_M_choose 43 = .ok (.istore 5, 2) := by decide +kernel
theorem d_M_choose_45 : decode b_M_choose 45 = .ok (.iload 5, 2) := by decide +kernel
theorem d_M_choose_47 : decode b_M_choose 47 = .ok (.sipush 1024, 3) := by decide +kernel
theorem d_M_choose_50 : decode b_M_choose 50 = .ok (.if_icmp .ge 44, 3) := by decide +kernel
theorem d_M_choose_53 : decode b_M_choose 53 = .ok (.aload_n 0, 1) := by decide +kernel
theorem d_M_choose_54 : decode b_M_choose 54 = .ok (.getfield 13, 3) := by decide +kernel
theorem d_M_choose_57 : decode b_M_choose 57 = .ok (.iload 5, 2) := by decide +kernel
theorem d_M_choose_59 : decode b_M_choose 59 = .ok (.aload_n 0, 1) := by decide +kernel
theorem d_M_choose_60 : decode b_M_choose 60 = .ok (.iload_n 2, 1) := by decide +kernel
theorem d_M_choose_61 : decode b_M_choose 61 = .ok (.iload 5, 2) := by decide +kernel
theorem d_M_choose_63 : decode b_M_choose 63 = .ok (.invokevirtual 64, 3) := by decide +kernel
theorem d_M_choose_66 : decode b_M_choose 66 = .ok (.ifCond .eq 13, 3) := by decide +kernel
theorem d_M_choose_69 : decode b_M_choose 69 = .ok (.aload_n 0, 1) := by decide +kernel
theorem d_M_choose_70 : decode b_M_choose 70 = .ok (.iload_n 3, 1) := by decide +kernel
theorem d_M_choose_71 : decode b_M_choose 71 = .ok (.iload 5, 2) := by decide +kernel
theorem d_M_choose_73 : decode b_M_choose 73 = .ok (.invokevirtual 64, 3) := by decide +kernel
theorem d_M_choose_76 : decode b_M_choose 76 = .ok (.goto 11, 3) := by decide +kernel
theorem d_M_choose_79 : decode b_M_choose 79 = .ok (.aload_n 0, 1) := by decide +kernel
theorem d_M_choose_80 : decode b_M_choose 80 = .ok (.iload 4, 2) := by decide +kernel
theorem d_M_choose_82 : decode b_M_choose 82 = .ok (.iload 5, 2) := by decide +kernel
theorem d_M_choose_84 : decode b_M_choose 84 = .ok (.invokevirtual 64, 3) := by decide +kernel
theorem d_M_choose_87 : decode b_M_choose 87 = .ok (.bastore, 1) := by decide +kernel
theorem d_M_choose_88 : decode b_M_choose 88 = .ok (.iinc 5 1, 3) := by decide +kernel
theorem d_M_choose_91 : decode b_M_choose 91 = .ok (.goto (-46), 3) := by decide +kernel
theorem d_M_choose_94 : decode b_M_choose 94 = .ok (.aload_n 0, 1) := by decide +kernel
theorem d_M_choose_95 : decode b_M_choose 95 = .ok (.iload_n 1, 1) := by decide +kernel
theorem d_M_choose_96 : decode b_M_choose 96 = .ok (.invokevirtual 72, 3) := by decide +kernel
theorem d_M_choose_99 : decode b_M_choose 99 = .ok (.return_, 1) := by decide +kernel
theorem d_M_fix_0 : decode b_M_fix 0 = .ok (.iload_n 1, 1) := by decide +kernel
theorem d_M_fix_1 : decode b_M_fix 1 = .ok (.invokestatic 53, 3) := by decide +kernel
theorem d_M_fix_4 : decode b_M_fix 4 = .ok (.ifCond .eq 14, 3) := by decide +kernel
theorem d_M_fix_7 : decode b_M_fix 7 = .ok (.iload_n 2, 1) := by decide +kernel
theorem d_M_fix_8 : decode b_M_fix 8 = .ok (.invokestatic 53, 3) := by decide +kernel
theorem d_M_fix_11 : decode b_M_fix 11 = .ok (.ifCond .eq 7, 3) := by decide +kernel
theorem d_M_fix_14 : decode b_M_fix 14 = .ok (.iconst 1, 1) := by decide +kernel
theorem d_M_fix_15 : decode b_M_fix 15 = .ok (.goto 4, 3) := by decide +kernel
theorem d_M_fix_18 : decode b_M_fix 18 = .ok (.iconst 0, 1) := by decide +kernel
theorem d_M_fix_19 : decode b_M_fix 19 = .ok (.istore 5, 2) := by decide +kernel
theorem d_M_fix_21 : decode b_M_fix 21 = .ok (.aload_n 0, 1) := by decide +kernel
theorem d_M_fix_22 : decode b_M_fix 22 = .ok (.iload 5, 2) := by decide +kernel
theorem d_M_fix_24 : decode b_M_fix 24 = .ok (.ifCond .ne 7, 3) := by decide +kernel
theorem d_M_fix_27 : decode b_M_fix 27 = .ok (.iconst 1, 1) := by decide +kernel
theorem d_M_fix_28 : decode b_M_fix 28 = .ok (.goto 4, 3) := by decide +kernel
theorem d_M_fix_31 : decode b_M_fix 31 = .ok (.iconst 0, 1) := by decide +kernel
theorem d_M_fix_32 : decode b_M_fix 32 = .ok (.iload 5, 2) := by decide +kernel
theorem d_M_fix_34 : decode b_M_fix 34 = .ok (.ifCond .eq 24, 3) := by decide +kernel
theorem d_M_fix_37 : decode b_M_fix 37 = .ok (.iload_n 3, 1) := by decide +kernel
theorem d_M_fix_38 : decode b_M_fix 38 = .ok (.invokestatic 61, 3) := by decide +kernel
theorem d_M_fix_41 : decode b_M_fix 41 = .ok (.ifCond .eq 13, 3) := by decide +kernel
theorem d_M_fix_44 : decode b_M_fix 44 = .ok (.iload 4, 2) := by decide +kernel
theorem d_M_fix_46 : decode b_M_fix 46 = .ok (.iconst 0, 1) := by decide +kernel
theorem d_M_fix_47 : decode b_M_fix 47 = .ok (.iconst 1, 1) := by decide +kernel
theorem d_M_fix_48 : decode b_M_fix 48 = .ok (.invokestatic 49, 3) := by decide +kernel
theorem d_M_fix_51 : decode b_M_fix 51 = .ok (.ifCond .ne 7, 3) := by decide +kernel
theorem d_M_fix_54 : decode b_M_fix 54 = .ok (.iconst 1, 1) := by decide +kernel
theorem d_M_fix_55 : decode b_M_fix 55 = .ok (.goto 4, 3) := by decide +kernel
theorem d_M_fix_58 : decode b_M_fix 58 = .ok (.iconst 0, 1) := by decide +kernel
theorem d_M_fix_59 : decode b_M_fix 59 = .ok (.invokevirtual 57, 3) := by decide +kernel
theorem d_M_fix_62 : decode b_M_fix 62 = .ok (.ifCond .ne 60, 3) := by decide +kernel
theorem d_M_fix_65 : decode b_M_fix 65 = .ok (.iconst 0, 1) := by decide +kernel
theorem d_M_fix_66 : decode b_M_fix 66 = .ok (.istore 6, 2) := by decide +kernel
theorem d_M_fix_68 : decode b_M_fix 68 = .ok (.iload 6, 2) := by decide +kernel
theorem d_M_fix_70 : decode b_M_fix 70 = .ok (.sipush 1024, 3) := by decide +kernel
theorem d_M_fix_73 : decode b_M_fix 73 = .ok (.if_icmp .ge 44, 3) := by decide +kernel
theorem d_M_fix_76 : decode b_M_fix 76 = .ok (.aload_n 0, 1) := by decide +kernel
theorem d_M_fix_77 : decode b_M_fix 77 = .ok (.getfield 13, 3) := by decide +kernel
theorem d_M_fix_80 : decode b_M_fix 80 = .ok (.iload 6, 2) := by decide +kernel
theorem d_M_fix_82 : decode b_M_fix 82 = .ok (.aload_n 0, 1) := by decide +kernel
theorem d_M_fix_83 : decode b_M_fix 83 = .ok (.iload_n 2, 1) := by decide +kernel
theorem d_M_fix_84 : decode b_M_fix 84 = .ok (.iload 4, 2) := by decide +kernel
theorem d_M_fix_86 : decode b_M_fix 86 = .ok (.iconst 1, 1) := by decide +kernel
theorem d_M_fix_87 : decode b_M_fix 87 = .ok (.if_icmp .ne 12, 3) := by decide +kernel
theorem d_M_fix_90 : decode b_M_fix 90 = .ok (.iload 6, 2) := by decide +kernel
theorem d_M_fix_92 : decode b_M_fix 92 = .ok (.iconst 1, 1) := by decide +kernel
theorem d_M_fix_93 : decode b_M_fix 93 = .ok (.iload_n 3, 1) := by decide +kernel
theorem d_M_fix_94 : decode b_M_fix 94 = .ok (.ishl, 1) := by decide +kernel
theorem d_M_fix_95 : decode b_M_fix 95 = .ok (.ior, 1) := by decide +kernel
theorem d_M_fix_96 : decode b_M_fix 96 = .ok (.goto 11, 3) := by decide +kernel
theorem d_M_fix_99 : decode b_M_fix 99 = .ok (.iload 6, 2) := by decide +kernel
theorem d_M_fix_101 : decode b_M_fix 101 = .ok (.iconst 1, 1) := by decide +kernel
theorem d_M_fix_102 : decode b_M_fix 102 = .ok (.iload_n 3, 1) := by decide +kernel
theorem d_M_fix_103 : decode b_M_fix 103 = .ok (.ishl, 1) := by decide +kernel
theorem d_M_fix_104 : decode b_M_fix 104 = .ok (.iconst (-1), 1) := by decide +kernel
theorem d_M_fix_105 : decode b_M_fix 105 = .ok (.ixor, 1) := by decide +kernel
theorem d_M_fix_106 : decode b_M_fix 106 = .ok (.iand, 1) := by decide +kernel
theorem d_M_fix_107 : decode b_M_fix 107 = .ok (.invokevirtual 64, 3) := by decide +kernel
theorem d_M_fix_110 : decode b_M_fix 110 = .ok (.bastore, 1) := by decide +kernel
theorem d_M_fix_111 : decode b_M_fix 111 = .ok (.iinc 6 1, 3) := by decide +kernel
theorem d_M_fix_114 : decode b_M_fix 114 = .ok (.goto (-46), 3) := by decide +kernel
theorem d_M_fix_117 : decode b_M_fix 117 = .ok (.aload_n 0, 1) := by decide +kernel
theorem d_M_fix_118 : decode b_M_fix 118 = .ok (.iload_n 1, 1) := by decide +kernel
theorem d_M_fix_119 : decode b_M_fix 119 = .ok (.invokevirtual 72, 3) := by decide +kernel
theorem d_M_fix_122 : decode b_M_fix 122 = .ok (.return_, 1) := by decide +kernel
theorem d_M_compose_0 : decode b_M_compose 0 = .ok (.iload_n 1, 1) := by decide +kernel
theorem d_M_compose_1 : decode b_M_compose 1 = .ok (.invokestatic 53, 3) := by decide +kernel
theorem d_M_compose_4 : decode b_M_compose 4 = .ok (.ifCond .eq 22, 3) := by decide +kernel
theorem d_M_compose_7 : decode b_M_compose 7 = .ok (.iload_n 2, 1) := by decide +kernel
theorem d_M_compose_8 : decode b_M_compose 8 = .ok (.invokestatic 53, 3) := by decide +kernel
theorem d_M_compose_11 : decode b_M_compose 11 = .ok (.ifCond .eq 15, 3) := by decide +kernel
theorem d_M_compose_14 : decode b_M_compose 14 = .ok (.iload 4, 2) := by decide +kernel
theorem d_M_compose_16 : decode b_M_compose 16 = .ok (.invokestatic 53, 3) := by decide +kernel
theorem d_M_compose_19 : decode b_M_compose 19 = .ok (.ifCond .eq 7, 3) := by decide +kernel
theorem d_M_compose_22 : decode b_M_compose 22 = .ok (.iconst 1, 1) := by decide +kernel
theorem d_M_compose_23 : decode b_M_compose 23 = .ok (.goto 4, 3) := by decide +kernel
theorem d_M_compose_26 : decode b_M_compose 26 = .ok (.iconst 0, 1) := by decide +kernel
theorem d_M_compose_27 : decode b_M_compose 27 = .ok (.istore 5, 2) := by decide +kernel
theorem d_M_compose_29 : decode b_M_compose 29 = .ok (.aload_n 0, 1) := by decide +kernel
theorem d_M_compose_30 : decode b_M_compose 30 = .ok (.iload 5, 2) := by decide +kernel
theorem d_M_compose_32 : decode b_M_compose 32 = .ok (.ifCond .ne 7, 3) := by decide +kernel
theorem d_M_compose_35 : decode b_M_compose 35 = .ok (.iconst 1, 1) := by decide +kernel
theorem d_M_compose_36 : decode b_M_compose 36 = .ok (.goto 4, 3) := by decide +kernel
theorem d_M_compose_39 : decode b_M_compose 39 = .ok (.iconst 0, 1) := by decide +kernel
theorem d_M_compose_40 : decode b_M_compose 40 = .ok (.iload 5, 2) := by decide +kernel
theorem d_M_compose_42 : decode b_M_compose 42 = .ok (.ifCond .eq 14, 3) := by decide +kernel
theorem d_M_compose_45 : decode b_M_compose 45 = .ok (.iload_n 3, 1) := by decide +kernel
theorem d_M_compose_46 : decode b_M_compose 46 = .ok (.invokestatic 61, 3) := by decide +kernel
theorem d_M_compose_49 : decode b_M_compose 49 = .ok (.ifCond .ne 7, 3) := by decide +kernel
theorem d_M_compose_52 : decode b_M_compose 52 = .ok (.iconst 1, 1) := by decide +kernel
theorem d_M_compose_53 : decode b_M_compose 53 = .ok (.goto 4, 3) := by decide +kernel
theorem d_M_compose_56 : decode b_M_compose 56 = .ok (.iconst 0, 1) := by decide +kernel
theorem d_M_compose_57 : decode b_M_compose 57 = .ok (.invokevirtual 57, 3) := by decide +kernel
theorem d_M_compose_60 : decode b_M_compose 60 = .ok (.ifCond .ne 65, 3) := by decide +kernel
theorem d_M_compose_63 : decode b_M_compose 63 = .ok (.iconst 0, 1) := by decide +kernel
theorem d_M_compose_64 : decode b_M_compose 64 = .ok (.istore 6, 2) := by decide +kernel
theorem d_M_compose_66 : decode b_M_compose 66 = .ok (.iload 6, 2) := by decide +kernel
theorem d_M_compose_68 : decode b_M_compose 68 = .ok (.sipush 1024, 3) := by decide +kernel
theorem d_M_compose_71 : decode b_M_compose 71 = .ok (.if_icmp .ge 49, 3) := by decide +kernel
theorem d_M_compose_74 : decode b_M_compose 74 = .ok (.aload_n 0, 1) := by decide +kernel
theorem d_M_compose_75 : decode b_M_compose 75 = .ok (.getfield 13, 3) := by decide +kernel
theorem d_M_compose_78 : decode b_M_compose 78 = .ok (.iload 6, 2) := by decide +kernel
theorem d_M_compose_80 : decode b_M_compose 80 = .ok (.aload_n 0, 1) := by decide +kernel
theorem d_M_compose_81 : decode b_M_compose 81 = .ok (.iload_n 2, 1) := by decide +kernel
theorem d_M_compose_82 : decode b_M_compose 82 = .ok (.aload_n 0, 1) := by decide +kernel
theorem d_M_compose_83 : decode b_M_compose 83 = .ok (.iload 4, 2) := by decide +kernel
theorem d_M_compose_85 : decode b_M_compose 85 = .ok (.iload 6, 2) := by decide +kernel
theorem d_M_compose_87 : decode b_M_compose 87 = .ok (.invokevirtual 64, 3) := by decide +kernel
theorem d_M_compose_90 : decode b_M_compose 90 = .ok (.ifCond .eq 12, 3) := by decide +kernel
theorem d_M_compose_93 : decode b_M_compose 93 = .ok (.iload 6, 2) := by decide +kernel
theorem d_M_compose_95 : decode b_M_compose 95 = .ok (.iconst 1, 1) := by decide +kernel
theorem d_M_compose_96 : decode b_M_compose 96 = .ok (.iload_n 3, 1) := by decide +kernel
theorem d_M_compose_97 : decode b_M_compose 97 = .ok (.ishl, 1) := by decide +kernel
theorem d_M_compose_98 : decode b_M_compose 98 = .ok (.ior, 1) := by decide +kernel
theorem d_M_compose_99 : decode b_M_compose 99 = .ok (.goto 11, 3) := by decide +kernel
theorem d_M_compose_102 : decode b_M_compose 102 = .ok (.iload 6, 2) := by decide +kernel
theorem d_M_compose_104 : decode b_M_compose 104 = .ok (.iconst 1, 1) := by decide +kernel
theorem d_M_compose_105 : decode b_M_compose 105 = .ok (.iload_n 3, 1) := by decide +kernel
theorem d_M_compose_106 : decode b_M_compose 106 = .ok (.ishl, 1) := by decide +kernel
theorem d_M_compose_107 : decode b_M_compose 107 = .ok (.iconst (-1), 1) := by decide +kernel
theorem d_M_compose_108 : decode b_M_compose 108 = .ok (.ixor, 1) := by decide +kernel
theorem d_M_compose_109 : decode b_M_compose 109 = .ok (.iand, 1) := by decide +kernel
theorem d_M_compose_110 : decode b_M_compose 110 = .ok (.invokevirtual 64, 3) := by decide +kernel
theorem d_M_compose_113 : decode b_M_compose 113 = .ok (.bastore, 1) := by decide +kernel
theorem d_M_compose_114 : decode b_M_compose 114 = .ok (.iinc 6 1, 3) := by decide +kernel
theorem d_M_compose_117 : decode b_M_compose 117 = .ok (.goto (-51), 3) := by decide +kernel
theorem d_M_compose_120 : decode b_M_compose 120 = .ok (.aload_n 0, 1) := by decide +kernel
theorem d_M_compose_121 : decode b_M_compose 121 = .ok (.iload_n 1, 1) := by decide +kernel
theorem d_M_compose_122 : decode b_M_compose 122 = .ok (.invokevirtual 72, 3) := by decide +kernel
theorem d_M_compose_125 : decode b_M_compose 125 = .ok (.return_, 1) := by decide +kernel
theorem d_M_quantifyMade_0 : decode b_M_quantifyMade 0 = .ok (.iconst 0, 1) := by decide +kernel
theorem d_M_quantifyMade_1 : decode b_M_quantifyMade 1 = .ok (.istore_n 3, 1) := by decide +kernel
theorem d_M_quantifyMade_2 : decode b_M_quantifyMade 2 = .ok (.iload_n 3, 1) := by decide +kernel
theorem d_M_quantifyMade_3 : decode b_M_quantifyMade 3 = .ok (.bipush 10, 2) := by decide +kernel
theorem d_M_quantifyMade_5 : decode b_M_quantifyMade 5 = .ok (.if_icmp .ge 128, 3) := by decide +kernel
theorem d_M_quantifyMade_8 : decode b_M_quantifyMade 8 = .ok (.iconst 0, 1) := by decide +kernel
theorem d_M_quantifyMade_9 : decode b_M_quantifyMade 9 = .ok (.istore 4, 2) := by decide +kernel
theorem d_M_quantifyMade_11 : decode b_M_quantifyMade 11 = .ok (.iload 4, 2) := by decide +kernel
theorem d_M_quantifyMade_13 : decode b_M_quantifyMade 13 = .ok (.sipush 1024, 3) := by decide +kernel
theorem d_M_quantifyMade_16 : decode b_M_quantifyMade 16 = .ok (.if_icmp .ge 111, 3) := by decide +kernel
theorem d_M_quantifyMade_19 : decode b_M_quantifyMade 19 = .ok (.iload_n 1, 1) := by decide +kernel
theorem d_M_quantifyMade_20 : decode b_M_quantifyMade 20 = .ok (.iload_n 3, 1) := by decide +kernel
theorem d_M_quantifyMade_21 : decode b_M_quantifyMade 21 = .ok (.ishr, 1) := by decide +kernel
theorem d_M_quantifyMade_22 : decode b_M_quantifyMade 22 = .ok (.iconst 1, 1) := by decide +kernel
theorem d_M_quantifyMade_23 : decode b_M_quantifyMade 23 = .ok (.iand, 1) := by decide +kernel
theorem d_M_quantifyMade_24 : decode b_M_quantifyMade 24 = .ok (.iconst 1, 1) := by decide +kernel
theorem d_M_quantifyMade_25 : decode b_M_quantifyMade 25 = .ok (.if_icmp .ne 102, 3) := by decide +kernel
theorem d_M_quantifyMade_28 : decode b_M_quantifyMade 28 = .ok (.iload 4, 2) := by decide +kernel
theorem d_M_quantifyMade_30 : decode b_M_quantifyMade 30 = .ok (.iload_n 3, 1) := by decide +kernel
theorem d_M_quantifyMade_31 : decode b_M_quantifyMade 31 = .ok (.ishr, 1) := by decide +kernel
theorem d_M_quantifyMade_32 : decode b_M_quantifyMade 32 = .ok (.iconst 1, 1) := by decide +kernel
theorem d_M_quantifyMade_33 : decode b_M_quantifyMade 33 = .ok (.iand, 1) := by decide +kernel
theorem d_M_quantifyMade_34 : decode b_M_quantifyMade 34 = .ok (.ifCond .ne 87, 3) := by decide +kernel
theorem d_M_quantifyMade_37 : decode b_M_quantifyMade 37 = .ok (.aload_n 0, 1) := by decide +kernel
theorem d_M_quantifyMade_38 : decode b_M_quantifyMade 38 = .ok (.getfield 13, 3) := by decide +kernel
theorem d_M_quantifyMade_41 : decode b_M_quantifyMade 41 = .ok (.iload 4, 2) := by decide +kernel
theorem d_M_quantifyMade_43 : decode b_M_quantifyMade 43 = .ok (.baload, 1) := by decide +kernel
theorem d_M_quantifyMade_44 : decode b_M_quantifyMade 44 = .ok (.istore 5, 2) := by decide +kernel
theorem d_M_quantifyMade_46 : decode b_M_quantifyMade 46 = .ok (.aload_n 0, 1) := by decide +kernel
theorem d_M_quantifyMade_47 : decode b_M_quantifyMade 47 = .ok (.getfield 13, 3) := by decide +kernel
theorem d_M_quantifyMade_50 : decode b_M_quantifyMade 50 = .ok (.iload 4, 2) := by decide +kernel
theorem d_M_quantifyMade_52 : decode b_M_quantifyMade 52 = .ok (.iconst 1, 1) := by decide +kernel
theorem d_M_quantifyMade_53 : decode b_M_quantifyMade 53 = .ok (.iload_n 3, 1) := by decide +kernel
theorem d_M_quantifyMade_54 : decode b_M_quantifyMade 54 = .ok (.ishl, 1) := by decide +kernel
theorem d_M_quantifyMade_55 : decode b_M_quantifyMade 55 = .ok (.ior, 1) := by decide +kernel
theorem d_M_quantifyMade_56 : decode b_M_quantifyMade 56 = .ok (.baload, 1) := by decide +kernel
theorem d_M_quantifyMade_57 : decode b_M_quantifyMade 57 = .ok (.istore 6, 2) := by decide +kernel
theorem d_M_quantifyMade_59 : decode b_M_quantifyMade 59 = .ok (.aload_n 0, 1) := by decide +kernel
theorem d_M_quantifyMade_60 : decode b_M_quantifyMade 60 = .ok (.getfield 13, 3) := by decide +kernel
theorem d_M_quantifyMade_63 : decode b_M_quantifyMade 63 = .ok (.iload 4, 2) := by decide +kernel
theorem d_M_quantifyMade_65 : decode b_M_quantifyMade 65 = .ok (.iload_n 2, 1) := by decide +kernel
theorem d_M_quantifyMade_66 : decode b_M_quantifyMade 66 = .ok (.ifCond .eq 21, 3) := by decide +kernel
theorem d_M_quantifyMade_69 : decode b_M_quantifyMade 69 = .ok (.iload 5, 2) := by decide +kernel
theorem d_M_quantifyMade_71 : decode b_M_quantifyMade 71 = .ok (.ifCond .eq 12, 3) := by decide +kernel
theorem d_M_quantifyMade_74 : decode b_M_quantifyMade 74 = .ok (.iload 6, 2) := by decide +kernel
theorem d_M_quantifyMade_76 : decode b_M_quantifyMade 76 = .ok (.ifCond .eq 7, 3) := by decide +kernel
theorem d_M_quantifyMade_79 : decode b_M_quantifyMade 79 = .ok (.iconst 1, 1) := by decide +kernel
theorem d_M_quantifyMade_80 : decode b_M_quantifyMade 80 = .ok (.goto 22, 3) := by decide +kernel
theorem d_M_quantifyMade_83 : decode b_M_quantifyMade 83 = .ok (.iconst 0, 1) := by decide +kernel
theorem d_M_quantifyMade_84 : decode b_M_quantifyMade 84 = .ok (.goto 18, 3) := by decide +kernel
theorem d_M_quantifyMade_87 : decode b_M_quantifyMade 87 = .ok (.iload 5, 2) := by decide +kernel
theorem d_M_quantifyMade_89 : decode b_M_quantifyMade 89 = .ok (.ifCond .ne 8, 3) := by decide +kernel
theorem d_M_quantifyMade_92 : decode b_M_quantifyMade 92 = .ok (.iload 6, 2) := by decide +kernel
theorem d_M_quantifyMade_94 : decode b_M_quantifyMade 94 = .ok (.ifCond .eq 7, 3) := by decide +kernel
theorem d_M_quantifyMade_97 : decode b_M_quantifyMade 97 = .ok (.iconst 1, 1) := by decide +kernel
theorem d_M_quantifyMade_98 : decode b_M_quantifyMade 98 = .ok (.goto 4, 3) := by decide +kernel
theorem d_M_quantifyMade_101 : decode b_M_quantifyMade 101 = .ok (.iconst 0, 1) := by decide +kernel
theorem d_M_quantifyMade_102 : decode b_M_quantifyMade 102 = .ok (.bastore, 1) := by decide +kernel
theorem d_M_quantifyMade_103 : decode b_M_quantifyMade 103 = .ok (.aload_n 0, 1) := by decide +kernel
theorem d_M_quantifyMade_104 : decode b_M_quantifyMade 104 = .ok (.getfield 13, 3) := by decide +kernel
theorem d_M_quantifyMade_107 : decode b_M_quantifyMade 107 = .ok (.iload 4, 2) := by decide +kernel
theorem d_M_quantifyMade_109 : decode b_M_quantifyMade 109 = .ok (.iconst 1, 1) := by decide +kernel
theorem d_M_quantifyMade_110 : decode b_M_quantifyMade 110 = .ok (.iload_n 3, 1) := by decide +kernel
theorem d_M_quantifyMade_111 : decode b_M_quantifyMade 111 = .ok (.ishl, 1) := by decide +kernel
theorem d_M_quantifyMade_112 : decode b_M_quantifyMade 112 = .ok (.ior, 1) := by decide +kernel
theorem d_M_quantifyMade_113 : decode b_M_quantifyMade 113 = .ok (.aload_n 0, 1) := by decide +kernel
theorem d_M_quantifyMade_114 : decode b_M_quantifyMade 114 = .ok (.getfield 13, 3) := by decide +kernel
theorem d_M_quantifyMade_117 : decode b_M_quantifyMade 117 = .ok (.iload 4, 2) := by decide +kernel
theorem d_M_quantifyMade_119 : decode b_M_quantifyMade 119 = .ok (.baload, 1) := by decide +kernel
theorem d_M_quantifyMade_120 : decode b_M_quantifyMade 120 = .ok (.bastore, 1) := by decide +kernel
theorem d_M_quantifyMade_121 : decode b_M_quantifyMade 121 = .ok (.iinc 4 1, 3) := by decide +kernel
theorem d_M_quantifyMade_124 : decode b_M_quantifyMade 124 = .ok (.goto (-113), 3) := by decide +kernel
theorem d_M_quantifyMade_127 : decode b_M_quantifyMade 127 = .ok (.iinc 3 1, 3) := by decide +kernel
theorem d_M_quantifyMade_130 : decode b_M_quantifyMade 130 = .ok (.goto (-128), 3) := by decide +kernel
theorem d_M_quantifyMade_133 : decode b_M_quantifyMade 133 = .ok (.return_, 1) := by decide +kernel
theorem d_M_quantify_0 : decode b_M_quantify 0 = .ok (.iload_n 1, 1) := by decide +kernel
theorem d_M_quantify_1 : decode b_M_quantify 1 = .ok (.invokestatic 53, 3) := by decide +kernel
theorem d_M_quantify_4 : decode b_M_quantify 4 = .ok (.ifCond .eq 14, 3) := by decide +kernel
theorem d_M_quantify_7 : decode b_M_quantify 7 = .ok (.iload_n 2, 1) := by decide +kernel
theorem d_M_quantify_8 : decode b_M_quantify 8 = .ok (.invokestatic 53, 3) := by decide +kernel
theorem d_M_quantify_11 : decode b_M_quantify 11 = .ok (.ifCond .eq 7, 3) := by decide +kernel
theorem d_M_quantify_14 : decode b_M_quantify 14 = .ok (.iconst 1, 1) := by decide +kernel
theorem d_M_quantify_15 : decode b_M_quantify 15 = .ok (.goto 4, 3) := by decide +kernel
theorem d_M_quantify_18 : decode b_M_quantify 18 = .ok (.iconst 0, 1) := by decide +kernel
theorem d_M_quantify_19 : decode b_M_quantify 19 = .ok (.istore 5, 2) := by decide +kernel
theorem d_M_quantify_21 : decode b_M_quantify 21 = .ok (.aload_n 0, 1) := by decide +kernel
theorem d_M_quantify_22 : decode b_M_quantify 22 = .ok (.iload 5, 2) := by decide +kernel
theorem d_M_quantify_24 : decode b_M_quantify 24 = .ok (.ifCond .ne 7, 3) := by decide +kernel
theorem d_M_quantify_27 : decode b_M_quantify 27 = .ok (.iconst 1, 1) := by decide +kernel
theorem d_M_quantify_28 : decode b_M_quantify 28 = .ok (.goto 4, 3) := by decide +kernel
theorem d_M_quantify_31 : decode b_M_quantify 31 = .ok (.iconst 0, 1) := by decide +kernel
theorem d_M_quantify_32 : decode b_M_quantify 32 = .ok (.iload 5, 2) := by decide +kernel
theorem d_M_quantify_34 : decode b_M_quantify 34 = .ok (.ifCond .eq 18, 3) := by decide +kernel
theorem d_M_quantify_37 : decode b_M_quantify 37 = .ok (.iload_n 3, 1) := by decide +kernel
theorem d_M_quantify_38 : decode b_M_quantify 38 = .ok (.iconst 0, 1) := by decide +kernel
theorem d_M_quantify_39 : decode b_M_quantify 39 = .ok (.sipush 1023, 3) := by decide +kernel
theorem d_M_quantify_42 : decode b_M_quantify 42 = .ok (.invokestatic 49, 3) := by decide +kernel
theorem d_M_quantify_45 : decode b_M_quantify 45 = .ok (.ifCond .ne 7, 3) := by decide +kernel
theorem d_M_quantify_48 : decode b_M_quantify 48 = .ok (.iconst 1, 1) := by decide +kernel
theorem d_M_quantify_49 : decode b_M_quantify 49 = .ok (.goto 4, 3) := by decide +kernel
theorem d_M_quantify_52 : decode b_M_quantify 52 = .ok (.iconst 0, 1) := by decide +kernel
theorem d_M_quantify_53 : decode b_M_quantify 53 = .ok (.invokevirtual 57, 3) := by decide +kernel
theorem d_M_quantify_56 : decode b_M_quantify 56 = .ok (.ifCond .ne 46, 3) := by decide +kernel
theorem d_M_quantify_59 : decode b_M_quantify 59 = .ok (.iconst 0, 1) := by decide +kernel
theorem d_M_quantify_60 : decode b_M_quantify 60 = .ok (.istore 6, 2) := by decide +kernel
theorem d_M_quantify_62 : decode b_M_quantify 62 = .ok (.iload 6, 2) := by decide +kernel
theorem d_M_quantify_64 : decode b_M_quantify 64 = .ok (.sipush 1024, 3) := by decide +kernel
theorem d_M_quantify_67 : decode b_M_quantify 67 = .ok (.if_icmp .ge 23, 3) := by decide +kernel
theorem d_M_quantify_70 : decode b_M_quantify 70 = .ok (.aload_n 0, 1) := by decide +kernel
theorem d_M_quantify_71 : decode b_M_quantify 71 = .ok (.getfield 13, 3) := by decide +kernel
theorem d_M_quantify_74 : decode b_M_quantify 74 = .ok (.iload 6, 2) := by decide +kernel
theorem d_M_quantify_76 : decode b_M_quantify 76 = .ok (.aload_n 0, 1) := by decide +kernel
theorem d_M_quantify_77 : decode b_M_quantify 77 = .ok (.iload_n 2, 1) := by decide +kernel
theorem d_M_quantify_78 : decode b_M_quantify 78 = .ok (.iload 6, 2) := by decide +kernel
theorem d_M_quantify_80 : decode b_M_quantify 80 = .ok (.invokevirtual 64, 3) := by decide +kernel
theorem d_M_quantify_83 : decode b_M_quantify 83 = .ok (.bastore, 1) := by decide +kernel
theorem d_M_quantify_84 : decode b_M_quantify 84 = .ok (.iinc 6 1, 3) := by decide +kernel
theorem d_M_quantify_87 : decode b_M_quantify 87 = .ok (.goto (-25), 3) := by decide +kernel
theorem d_M_quantify_90 : decode b_M_quantify 90 = .ok (.aload_n 0, 1) := by decide +kernel
theorem d_M_quantify_91 : decode b_M_quantify 91 = .ok (.iload_n 3, 1) := by decide +kernel
theorem d_M_quantify_92 : decode b_M_quantify 92 = .ok (.iload 4, 2) := by decide +kernel
theorem d_M_quantify_94 : decode b_M_quantify 94 = .ok (.invokevirtual 76, 3) := by decide +kernel
theorem d_M_quantify_97 : decode b_M_quantify 97 = .ok (.aload_n 0, 1) := by decide +kernel
theorem d_M_quantify_98 : decode b_M_quantify 98 = .ok (.iload_n 1, 1) := by decide +kernel
theorem d_M_quantify_99 : decode b_M_quantify 99 = .ok (.invokevirtual 72, 3) := by decide +kernel
theorem d_M_quantify_102 : decode b_M_quantify 102 = .ok (.return_, 1) := by decide +kernel
theorem d_M_meet_0 : decode b_M_meet 0 = .ok (.iload_n 1, 1) := by decide +kernel
theorem d_M_meet_1 : decode b_M_meet 1 = .ok (.invokestatic 53, 3) := by decide +kernel
theorem d_M_meet_4 : decode b_M_meet 4 = .ok (.ifCond .eq 21, 3) := by decide +kernel
theorem d_M_meet_7 : decode b_M_meet 7 = .ok (.iload_n 2, 1) := by decide +kernel
theorem d_M_meet_8 : decode b_M_meet 8 = .ok (.invokestatic 53, 3) := by decide +kernel
theorem d_M_meet_11 : decode b_M_meet 11 = .ok (.ifCond .eq 14, 3) := by decide +kernel
theorem d_M_meet_14 : decode b_M_meet 14 = .ok (.iload_n 3, 1) := by decide +kernel
theorem d_M_meet_15 : decode b_M_meet 15 = .ok (.invokestatic 53, 3) := by decide +kernel
theorem d_M_meet_18 : decode b_M_meet 18 = .ok (.ifCond .eq 7, 3) := by decide +kernel
theorem d_M_meet_21 : decode b_M_meet 21 = .ok (.iconst 1, 1) := by decide +kernel
theorem d_M_meet_22 : decode b_M_meet 22 = .ok (.goto 4, 3) := by decide +kernel
theorem d_M_meet_25 : decode b_M_meet 25 = .ok (.iconst 0, 1) := by decide +kernel
theorem d_M_meet_26 : decode b_M_meet 26 = .ok (.istore 5, 2) := by decide +kernel
theorem d_M_meet_28 : decode b_M_meet 28 = .ok (.aload_n 0, 1) := by decide +kernel
theorem d_M_meet_29 : decode b_M_meet 29 = .ok (.iload 5, 2) := by decide +kernel
theorem d_M_meet_31 : decode b_M_meet 31 = .ok (.ifCond .ne 7, 3) := by decide +kernel
theorem d_M_meet_34 : decode b_M_meet 34 = .ok (.iconst 1, 1) := by decide +kernel
theorem d_M_meet_35 : decode b_M_meet 35 = .ok (.goto 4, 3) := by decide +kernel
theorem d_M_meet_38 : decode b_M_meet 38 = .ok (.iconst 0, 1) := by decide +kernel
theorem d_M_meet_39 : decode b_M_meet 39 = .ok (.iload 5, 2) := by decide +kernel
theorem d_M_meet_41 : decode b_M_meet 41 = .ok (.ifCond .eq 19, 3) := by decide +kernel
theorem d_M_meet_44 : decode b_M_meet 44 = .ok (.iload 4, 2) := by decide +kernel
theorem d_M_meet_46 : decode b_M_meet 46 = .ok (.iconst 0, 1) := by decide +kernel
theorem d_M_meet_47 : decode b_M_meet 47 = .ok (.sipush 1023, 3) := by decide +kernel
theorem d_M_meet_50 : decode b_M_meet 50 = .ok (.invokestatic 49, 3) := by decide +kernel
theorem d_M_meet_53 : decode b_M_meet 53 = .ok (.ifCond .ne 7, 3) := by decide +kernel
theorem d_M_meet_56 : decode b_M_meet 56 = .ok (.iconst 1, 1) := by decide +kernel
theorem d_M_meet_57 : decode b_M_meet 57 = .ok (.goto 4, 3) := by decide +kernel
theorem d_M_meet_60 : decode b_M_meet 60 = .ok (.iconst 0, 1) := by decide +kernel
theorem d_M_meet_61 : decode b_M_meet 61 = .ok (.invokevirtual 57, 3) := by decide +kernel
theorem d_M_meet_64 : decode b_M_meet 64 = .ok (.ifCond .ne 64, 3) := by decide +kernel
theorem d_M_meet_67 : decode b_M_meet 67 = .ok (.iconst 0, 1) := by decide +kernel
theorem d_M_meet_68 : decode b_M_meet 68 = .ok (.istore 6, 2) := by decide +kernel
theorem d_M_meet_70 : decode b_M_meet 70 = .ok (.iload 6, 2) := by decide +kernel
theorem d_M_meet_72 : decode b_M_meet 72 = .ok (.sipush 1024, 3) := by decide +kernel
theorem d_M_meet_75 : decode b_M_meet 75 = .ok (.if_icmp .ge 41, 3) := by decide +kernel
theorem d_M_meet_78 : decode b_M_meet 78 = .ok (.aload_n 0, 1) := by decide +kernel
theorem d_M_meet_79 : decode b_M_meet 79 = .ok (.getfield 13, 3) := by decide +kernel
theorem d_M_meet_82 : decode b_M_meet 82 = .ok (.iload 6, 2) := by decide +kernel
theorem d_M_meet_84 : decode b_M_meet 84 = .ok (.aload_n 0, 1) := by decide +kernel
theorem d_M_meet_85 : decode b_M_meet 85 = .ok (.iload_n 2, 1) := by decide +kernel
theorem d_M_meet_86 : decode b_M_meet 86 = .ok (.iload 6, 2) := by decide +kernel
theorem d_M_meet_88 : decode b_M_meet 88 = .ok (.invokevirtual 64, 3) := by decide +kernel
theorem d_M_meet_91 : decode b_M_meet 91 = .ok (.ifCond .eq 17, 3) := by decide +kernel
theorem d_M_meet_94 : decode b_M_meet 94 = .ok (.aload_n 0, 1) := by decide +kernel
theorem d_M_meet_95 : decode b_M_meet 95 = .ok (.iload_n 3, 1) := by decide +kernel
theorem d_M_meet_96 : decode b_M_meet 96 = .ok (.iload 6, 2) := by decide +kernel
theorem d_M_meet_98 : decode b_M_meet 98 = .ok (.invokevirtual 64, 3) := by decide +kernel
theorem d_M_meet_101 : decode b_M_meet 101 = .ok (.ifCond .eq 7, 3) := by decide +kernel
theorem d_M_meet_104 : decode b_M_meet 104 = .ok (.iconst 1, 1) := by decide +kernel
theorem d_M_meet_105 : decode b_M_meet 105 = .ok (.goto 4, 3) := by decide +kernel
theorem d_M_meet_108 : decode b_M_meet 108 = .ok (.iconst 0, 1) := by decide +kernel
theorem d_M_meet_109 : decode b_M_meet 109 = .ok (.bastore, 1) := by decide +kernel
theorem d_M_meet_110 : decode b_M_meet 110 = .ok (.iinc 6 1, 3) := by decide +kernel
theorem d_M_meet_113 : decode b_M_meet 113 = .ok (.goto (-43), 3) := by decide +kernel
theorem d_M_meet_116 : decode b_M_meet 116 = .ok (.aload_n 0, 1) := by decide +kernel
theorem d_M_meet_117 : decode b_M_meet 117 = .ok (.iload 4, 2) := by decide +kernel
theorem d_M_meet_119 : decode b_M_meet 119 = .ok (.iconst 0, 1) := by decide +kernel
theorem d_M_meet_120 : decode b_M_meet 120 = .ok (.invokevirtual 76, 3) := by decide +kernel
theorem d_M_meet_123 : decode b_M_meet 123 = .ok (.aload_n 0, 1) := by decide +kernel
theorem d_M_meet_124 : decode b_M_meet 124 = .ok (.iload_n 1, 1) := by decide +kernel
theorem d_M_meet_125 : decode b_M_meet 125 = .ok (.invokevirtual 72, 3) := by decide +kernel
theorem d_M_meet_128 : decode b_M_meet 128 = .ok (.return_, 1) := by decide +kernel
theorem d_M_inputsOf_0 : decode b_M_inputsOf 0 = .ok (.iconst 0, 1) := by decide +kernel
theorem d_M_inputsOf_1 : decode b_M_inputsOf 1 = .ok (.istore_n 2, 1) := by decide +kernel
theorem d_M_inputsOf_2 : decode b_M_inputsOf 2 = .ok (.iconst 0, 1) := by decide +kernel
theorem d_M_inputsOf_3 : decode b_M_inputsOf 3 = .ok (.istore_n 3, 1) := by decide +kernel
theorem d_M_inputsOf_4 : decode b_M_inputsOf 4 = .ok (.iload_n 3, 1) := by decide +kernel
theorem d_M_inputsOf_5 : decode b_M_inputsOf 5 = .ok (.bipush 10, 2) := by decide +kernel
theorem d_M_inputsOf_7 : decode b_M_inputsOf 7 = .ok (.if_icmp .ge 27, 3) := by decide +kernel
theorem d_M_inputsOf_10 : decode b_M_inputsOf 10 = .ok (.iload_n 2, 1) := by decide +kernel
theorem d_M_inputsOf_11 : decode b_M_inputsOf 11 = .ok (.iload_n 1, 1) := by decide +kernel
theorem d_M_inputsOf_12 : decode b_M_inputsOf 12 = .ok (.bipush 9, 2) := by decide +kernel
theorem d_M_inputsOf_14 : decode b_M_inputsOf 14 = .ok (.iload_n 3, 1) := by decide +kernel
theorem d_M_inputsOf_15 : decode b_M_inputsOf 15 = .ok (.isub, 1) := by decide +kernel
theorem d_M_inputsOf_16 : decode b_M_inputsOf 16 = .ok (.ishr, 1) := by decide +kernel
theorem d_M_inputsOf_17 : decode b_M_inputsOf 17 = .ok (.iconst 1, 1) := by decide +kernel
theorem d_M_inputsOf_18 : decode b_M_inputsOf 18 = .ok (.iand, 1) := by decide +kernel
theorem d_M_inputsOf_19 : decode b_M_inputsOf 19 = .ok (.aload_n 0, 1) := by decide +kernel
theorem d_M_inputsOf_20 : decode b_M_inputsOf 20 = .ok (.getfield 16, 3) := by decide +kernel
theorem d_M_inputsOf_23 : decode b_M_inputsOf 23 = .ok (.iload_n 3, 1) := by decide +kernel
theorem d_M_inputsOf_24 : decode b_M_inputsOf 24 = .ok (.iaload, 1) := by decide +kernel
theorem d_M_inputsOf_25 : decode b_M_inputsOf 25 = .ok (.ishl, 1) := by decide +kernel
theorem d_M_inputsOf_26 : decode b_M_inputsOf 26 = .ok (.ior, 1) := by decide +kernel
theorem d_M_inputsOf_27 : decode b_M_inputsOf 27 = .ok (.istore_n 2, 1) := by decide +kernel
theorem d_M_inputsOf_28 : decode b_M_inputsOf 28 = .ok (.iinc 3 1, 3) := by decide +kernel
theorem d_M_inputsOf_31 : decode b_M_inputsOf 31 = .ok (.goto (-27), 3) := by decide +kernel
theorem d_M_inputsOf_34 : decode b_M_inputsOf 34 = .ok (.iload_n 2, 1) := by decide +kernel
theorem d_M_inputsOf_35 : decode b_M_inputsOf 35 = .ok (.ireturn, 1) := by decide +kernel
theorem d_M_pair_0 : decode b_M_pair 0 = .ok (.iload_n 1, 1) := by decide +kernel
theorem d_M_pair_1 : decode b_M_pair 1 = .ok (.iload_n 2, 1) := by decide +kernel
theorem d_M_pair_2 : decode b_M_pair 2 = .ok (.if_icmp .ne 5, 3) := by decide +kernel
theorem d_M_pair_5 : decode b_M_pair 5 = .ok (.iload_n 1, 1) := by decide +kernel
theorem d_M_pair_6 : decode b_M_pair 6 = .ok (.ireturn, 1) := by decide +kernel
theorem d_M_pair_7 : decode b_M_pair 7 = .ok (.iload_n 1, 1) := by decide +kernel
theorem d_M_pair_8 : decode b_M_pair 8 = .ok (.bipush 31, 2) := by decide +kernel
theorem d_M_pair_10 : decode b_M_pair 10 = .ok (.imul, 1) := by decide +kernel
theorem d_M_pair_11 : decode b_M_pair 11 = .ok (.iload_n 2, 1) := by decide +kernel
theorem d_M_pair_12 : decode b_M_pair 12 = .ok (.sipush 1009, 3) := by decide +kernel
theorem d_M_pair_15 : decode b_M_pair 15 = .ok (.imul, 1) := by decide +kernel
theorem d_M_pair_16 : decode b_M_pair 16 = .ok (.iadd, 1) := by decide +kernel
theorem d_M_pair_17 : decode b_M_pair 17 = .ok (.iload_n 1, 1) := by decide +kernel
theorem d_M_pair_18 : decode b_M_pair 18 = .ok (.iconst 3, 1) := by decide +kernel
theorem d_M_pair_19 : decode b_M_pair 19 = .ok (.ishr, 1) := by decide +kernel
theorem d_M_pair_20 : decode b_M_pair 20 = .ok (.ixor, 1) := by decide +kernel
theorem d_M_pair_21 : decode b_M_pair 21 = .ok (.ldc 80, 2) := by decide +kernel
theorem d_M_pair_23 : decode b_M_pair 23 = .ok (.iand, 1) := by decide +kernel
theorem d_M_pair_24 : decode b_M_pair 24 = .ok (.istore_n 3, 1) := by decide +kernel
theorem d_M_pair_25 : decode b_M_pair 25 = .ok (.aload_n 0, 1) := by decide +kernel
theorem d_M_pair_26 : decode b_M_pair 26 = .ok (.getfield 33, 3) := by decide +kernel
theorem d_M_pair_29 : decode b_M_pair 29 = .ok (.iload_n 3, 1) := by decide +kernel
theorem d_M_pair_30 : decode b_M_pair 30 = .ok (.iaload, 1) := by decide +kernel
theorem d_M_pair_31 : decode b_M_pair 31 = .ok (.aload_n 0, 1) := by decide +kernel
theorem d_M_pair_32 : decode b_M_pair 32 = .ok (.getfield 81, 3) := by decide +kernel
theorem d_M_pair_35 : decode b_M_pair 35 = .ok (.if_icmp .ne 48, 3) := by decide +kernel
theorem d_M_pair_38 : decode b_M_pair 38 = .ok (.aload_n 0, 1) := by decide +kernel
theorem d_M_pair_39 : decode b_M_pair 39 = .ok (.getfield 30, 3) := by decide +kernel
theorem d_M_pair_42 : decode b_M_pair 42 = .ok (.iload_n 3, 1) := by decide +kernel
theorem d_M_pair_43 : decode b_M_pair 43 = .ok (.iaload, 1) := by decide +kernel
theorem d_M_pair_44 : decode b_M_pair 44 = .ok (.istore 4, 2) := by decide +kernel
theorem d_M_pair_46 : decode b_M_pair 46 = .ok (.aload_n 0, 1) := by decide +kernel
theorem d_M_pair_47 : decode b_M_pair 47 = .ok (.getfield 23, 3) := by decide +kernel
theorem d_M_pair_50 : decode b_M_pair 50 = .ok (.iload 4, 2) := by decide +kernel
theorem d_M_pair_52 : decode b_M_pair 52 = .ok (.iaload, 1) := by decide +kernel
theorem d_M_pair_53 : decode b_M_pair 53 = .ok (.iload_n 1, 1) := by decide +kernel
theorem d_M_pair_54 : decode b_M_pair 54 = .ok (.if_icmp .ne 19, 3) := by decide +kernel
theorem d_M_pair_57 : decode b_M_pair 57 = .ok (.aload_n 0, 1) := by decide +kernel
theorem d_M_pair_58 : decode b_M_pair 58 = .ok (.getfield 26, 3) := by decide +kernel
theorem d_M_pair_61 : decode b_M_pair 61 = .ok (.iload 4, 2) := by decide +kernel
theorem d_M_pair_63 : decode b_M_pair 63 = .ok (.iaload, 1) := by decide +kernel
theorem d_M_pair_64 : decode b_M_pair 64 = .ok (.iload_n 2, 1) := by decide +kernel
theorem d_M_pair_65 : decode b_M_pair 65 = .ok (.if_icmp .ne 8, 3) := by decide +kernel
theorem d_M_pair_68 : decode b_M_pair 68 = .ok (.iconst 2, 1) := by decide +kernel
theorem d_M_pair_69 : decode b_M_pair 69 = .ok (.iload 4, 2) := by decide +kernel
theorem d_M_pair_71 : decode b_M_pair 71 = .ok (.iadd, 1) := by decide +kernel
theorem d_M_pair_72 : decode b_M_pair 72 = .ok (.ireturn, 1) := by decide +kernel
theorem d_M_pair_73 : decode b_M_pair 73 = .ok (.iload_n 3, 1) := by decide +kernel
theorem d_M_pair_74 : decode b_M_pair 74 = .ok (.iconst 1, 1) := by decide +kernel
theorem d_M_pair_75 : decode b_M_pair 75 = .ok (.iadd, 1) := by decide +kernel
theorem d_M_pair_76 : decode b_M_pair 76 = .ok (.ldc 80, 2) := by decide +kernel
theorem d_M_pair_78 : decode b_M_pair 78 = .ok (.iand, 1) := by decide +kernel
theorem d_M_pair_79 : decode b_M_pair 79 = .ok (.istore_n 3, 1) := by decide +kernel
theorem d_M_pair_80 : decode b_M_pair 80 = .ok (.goto (-55), 3) := by decide +kernel
theorem d_M_pair_83 : decode b_M_pair 83 = .ok (.aload_n 0, 1) := by decide +kernel
theorem d_M_pair_84 : decode b_M_pair 84 = .ok (.getfield 33, 3) := by decide +kernel
theorem d_M_pair_87 : decode b_M_pair 87 = .ok (.iload_n 3, 1) := by decide +kernel
theorem d_M_pair_88 : decode b_M_pair 88 = .ok (.aload_n 0, 1) := by decide +kernel
theorem d_M_pair_89 : decode b_M_pair 89 = .ok (.getfield 81, 3) := by decide +kernel
theorem d_M_pair_92 : decode b_M_pair 92 = .ok (.iastore, 1) := by decide +kernel
theorem d_M_pair_93 : decode b_M_pair 93 = .ok (.aload_n 0, 1) := by decide +kernel
theorem d_M_pair_94 : decode b_M_pair 94 = .ok (.getfield 30, 3) := by decide +kernel
theorem d_M_pair_97 : decode b_M_pair 97 = .ok (.iload_n 3, 1) := by decide +kernel
theorem d_M_pair_98 : decode b_M_pair 98 = .ok (.aload_n 0, 1) := by decide +kernel
theorem d_M_pair_99 : decode b_M_pair 99 = .ok (.getfield 84, 3) := by decide +kernel
theorem d_M_pair_102 : decode b_M_pair 102 = .ok (.iastore, 1) := by decide +kernel
theorem d_M_pair_103 : decode b_M_pair 103 = .ok (.aload_n 0, 1) := by decide +kernel
theorem d_M_pair_104 : decode b_M_pair 104 = .ok (.getfield 23, 3) := by decide +kernel
theorem d_M_pair_107 : decode b_M_pair 107 = .ok (.aload_n 0, 1) := by decide +kernel
theorem d_M_pair_108 : decode b_M_pair 108 = .ok (.getfield 84, 3) := by decide +kernel
theorem d_M_pair_111 : decode b_M_pair 111 = .ok (.iload_n 1, 1) := by decide +kernel
theorem d_M_pair_112 : decode b_M_pair 112 = .ok (.iastore, 1) := by decide +kernel
theorem d_M_pair_113 : decode b_M_pair 113 = .ok (.aload_n 0, 1) := by decide +kernel
theorem d_M_pair_114 : decode b_M_pair 114 = .ok (.getfield 26, 3) := by decide +kernel
theorem d_M_pair_117 : decode b_M_pair 117 = .ok (.aload_n 0, 1) := by decide +kernel
theorem d_M_pair_118 : decode b_M_pair 118 = .ok (.getfield 84, 3) := by decide +kernel
theorem d_M_pair_121 : decode b_M_pair 121 = .ok (.iload_n 2, 1) := by decide +kernel
theorem d_M_pair_122 : decode b_M_pair 122 = .ok (.iastore, 1) := by decide +kernel
theorem d_M_pair_123 : decode b_M_pair 123 = .ok (.aload_n 0, 1) := by decide +kernel
theorem d_M_pair_124 : decode b_M_pair 124 = .ok (.dup, 1) := by decide +kernel
theorem d_M_pair_125 : decode b_M_pair 125 = .ok (.getfield 84, 3) := by decide +kernel
theorem d_M_pair_128 : decode b_M_pair 128 = .ok (.iconst 1, 1) := by decide +kernel
theorem d_M_pair_129 : decode b_M_pair 129 = .ok (.iadd, 1) := by decide +kernel
theorem d_M_pair_130 : decode b_M_pair 130 = .ok (.putfield 84, 3) := by decide +kernel
theorem d_M_pair_133 : decode b_M_pair 133 = .ok (.iconst 1, 1) := by decide +kernel
theorem d_M_pair_134 : decode b_M_pair 134 = .ok (.aload_n 0, 1) := by decide +kernel
theorem d_M_pair_135 : decode b_M_pair 135 = .ok (.getfield 84, 3) := by decide +kernel
theorem d_M_pair_138 : decode b_M_pair 138 = .ok (.iadd, 1) := by decide +kernel
theorem d_M_pair_139 : decode b_M_pair 139 = .ok (.ireturn, 1) := by decide +kernel
theorem d_M_countQuestions_0 : decode b_M_countQuestions 0 = .ok (.iload_n 2, 1) := by decide +kernel
theorem d_M_countQuestions_1 : decode b_M_countQuestions 1 = .ok (.iload_n 1, 1) := by decide +kernel
theorem d_M_countQuestions_2 : decode b_M_countQuestions 2 = .ok (.isub, 1) := by decide +kernel
theorem d_M_countQuestions_3 : decode b_M_countQuestions 3 = .ok (.iconst 1, 1) := by decide +kernel
theorem d_M_countQuestions_4 : decode b_M_countQuestions 4 = .ok (.iadd, 1) := by decide +kernel
theorem d_M_countQuestions_5 : decode b_M_countQuestions 5 = .ok (.istore_n 3, 1) := by decide +kernel
theorem d_M_countQuestions_6 : decode b_M_countQuestions 6 = .ok (.iconst 0, 1) := by decide +kernel
theorem d_M_countQuestions_7 : decode b_M_countQuestions 7 = .ok (.istore 4, 2) := by decide +kernel
theorem d_M_countQuestions_9 : decode b_M_countQuestions 9 = .ok (.iload 4, 2) := by decide +kernel
theorem d_M_countQuestions_11 : decode b_M_countQuestions 11 = .ok (.sipush 1024, 3) := by decide +kernel
theorem d_M_countQuestions_14 : decode b_M_countQuestions 14 = .ok (.if_icmp .ge 64, 3) := by decide +kernel
theorem d_M_countQuestions_17 : decode b_M_countQuestions 17 = .ok (.aload_n 0, 1) := by decide +kernel
theorem d_M_countQuestions_18 : decode b_M_countQuestions 18 = .ok (.iload 4, 2) := by decide +kernel
theorem d_M_countQuestions_20 : decode b_M_countQuestions 20 = .ok (.invokevirtual 87, 3) := by decide +kernel
theorem d_M_countQuestions_23 : decode b_M_countQuestions 23 = .ok (.istore 5, 2) := by decide +kernel
theorem d_M_countQuestions_25 : decode b_M_countQuestions 25 = .ok (.iconst 0, 1) := by decide +kernel
theorem d_M_countQuestions_26 : decode b_M_countQuestions 26 = .ok (.istore 6, 2) := by decide +kernel
theorem d_M_countQuestions_28 : decode b_M_countQuestions 28 = .ok (.iload 6, 2) := by decide +kernel
theorem d_M_countQuestions_30 : decode b_M_countQuestions 30 = .ok (.iload_n 3, 1) := by decide +kernel
theorem d_M_countQuestions_31 : decode b_M_countQuestions 31 = .ok (.if_icmp .ge 41, 3) := by decide +kernel
theorem d_M_countQuestions_34 : decode b_M_countQuestions 34 = .ok (.aload_n 0, 1) := by decide +kernel
theorem d_M_countQuestions_35 : decode b_M_countQuestions 35 = .ok (.getfield 20, 3) := by decide +kernel
theorem d_M_countQuestions_38 : decode b_M_countQuestions 38 = .ok (.sipush 1024, 3) := by decide +kernel
theorem d_M_countQuestions_41 : decode b_M_countQuestions 41 = .ok (.iload 6, 2) := by decide +kernel
theorem d_M_countQuestions_43 : decode b_M_countQuestions 43 = .ok (.imul, 1) := by decide +kernel
theorem d_M_countQuestions_44 : decode b_M_countQuestions 44 = .ok (.iload 4, 2) := by decide +kernel
theorem d_M_countQuestions_46 : decode b_M_countQuestions 46 = .ok (.iadd, 1) := by decide +kernel
theorem d_M_countQuestions_47 : decode b_M_countQuestions 47 = .ok (.aload_n 0, 1) := by decide +kernel
theorem d_M_countQuestions_48 : decode b_M_countQuestions 48 = .ok (.iload_n 1, 1) := by decide +kernel
theorem d_M_countQuestions_49 : decode b_M_countQuestions 49 = .ok (.iload 6, 2) := by decide +kernel
theorem d_M_countQuestions_51 : decode b_M_countQuestions 51 = .ok (.iadd, 1) := by decide +kernel
theorem d_M_countQuestions_52 : decode b_M_countQuestions 52 = .ok (.iload 5, 2) := by decide +kernel
theorem d_M_countQuestions_54 : decode b_M_countQuestions 54 = .ok (.invokevirtual 64, 3) := by decide +kernel
theorem d_M_countQuestions_57 : decode b_M_countQuestions 57 = .ok (.ifCond .eq 7, 3) := by decide +kernel
theorem d_M_countQuestions_60 : decode b_M_countQuestions 60 = .ok (.iconst 1, 1) := by decide +kernel
theorem d_M_countQuestions_61 : decode b_M_countQuestions 61 = .ok (.goto 4, 3) := by decide +kernel
theorem d_M_countQuestions_64 : decode b_M_countQuestions 64 = .ok (.iconst 0, 1) := by decide +kernel
theorem d_M_countQuestions_65 : decode b_M_countQuestions 65 = .ok (.iastore, 1) := by decide +kernel
theorem d_M_countQuestions_66 : decode b_M_countQuestions 66 = .ok (.iinc 6 1, 3) := by decide +kernel
theorem d_M_countQuestions_69 : decode b_M_countQuestions 69 = .ok (.goto (-41), 3) := by decide +kernel
theorem d_M_countQuestions_72 : decode b_M_countQuestions 72 = .ok (.iinc 4 1, 3) := by decide +kernel
theorem d_M_countQuestions_75 : decode b_M_countQuestions 75 = .ok (.goto (-66), 3) := by decide +kernel
theorem d_M_countQuestions_78 : decode b_M_countQuestions 78 = .ok (.aload_n 0, 1) := by decide +kernel
theorem d_M_countQuestions_79 : decode b_M_countQuestions 79 = .ok (.iconst 0, 1) := by decide +kernel
theorem d_M_countQuestions_80 : decode b_M_countQuestions 80 = .ok (.putfield 84, 3) := by decide +kernel
theorem d_M_countQuestions_83 : decode b_M_countQuestions 83 = .ok (.bipush 9, 2) := by decide +kernel
theorem d_M_countQuestions_85 : decode b_M_countQuestions 85 = .ok (.istore 4, 2) := by decide +kernel
theorem d_M_countQuestions_87 : decode b_M_countQuestions 87 = .ok (.iload 4, 2) := by decide +kernel
theorem d_M_countQuestions_89 : decode b_M_countQuestions 89 = .ok (.ifCond .lt 133, 3) := by decide +kernel
theorem d_M_countQuestions_92 : decode b_M_countQuestions 92 = .ok (.aload_n 0, 1) := by decide +kernel
theorem d_M_countQuestions_93 : decode b_M_countQuestions 93 = .ok (.getfield 84, 3) := by decide +kernel
theorem d_M_countQuestions_96 : decode b_M_countQuestions 96 = .ok (.istore 5, 2) := by decide +kernel
theorem d_M_countQuestions_98 : decode b_M_countQuestions 98 = .ok (.iconst 1, 1) := by decide +kernel
theorem d_M_countQuestions_99 : decode b_M_countQuestions 99 = .ok (.iload 4, 2) := by decide +kernel
theorem d_M_countQuestions_101 : decode b_M_countQuestions 101 = .ok (.ishl, 1) := by decide +kernel
theorem d_M_countQuestions_102 : decode b_M_countQuestions 102 = .ok (.istore 6, 2) := by decide +kernel
theorem d_M_countQuestions_104 : decode b_M_countQuestions 104 = .ok (.aload_n 0, 1) := by decide +kernel
theorem d_M_countQuestions_105 : decode b_M_countQuestions 105 = .ok (.dup, 1) := by decide +kernel
theorem d_M_countQuestions_106 : decode b_M_countQuestions 106 = .ok (.getfield 81, 3) := by decide +kernel
theorem d_M_countQuestions_109 : decode b_M_countQuestions 109 = .ok (.iconst 1, 1) := by decide +kernel
theorem d_M_countQuestions_110 : decode b_M_countQuestions 110 = .ok (.iadd, 1) := by decide +kernel
theorem d_M_countQuestions_111 : decode b_M_countQuestions 111 = .ok (.putfield 81, 3) := by decide +kernel
theorem d_M_countQuestions_114 : decode b_M_countQuestions 114 = .ok (.iconst 0, 1) := by decide +kernel
theorem d_M_countQuestions_115 : decode b_M_countQuestions 115 = .ok (.istore 7, 2) := by decide +kernel
theorem d_M_countQuestions_117 : decode b_M_countQuestions 117 = .ok (.iload 7, 2) := by decide +kernel
theorem d_M_countQuestions_119 : decode b_M_countQuestions 119 = .ok (.iload_n 3, 1) := by decide +kernel
theorem d_M_countQuestions_120 : decode b_M_countQuestions 120 = .ok (.if_icmp .ge 77, 3) := by decide +kernel
theorem d_M_countQuestions_123 : decode b_M_countQuestions 123 = .ok (.iconst 0, 1) := by decide +kernel
theorem d_M_countQuestions_124 : decode b_M_countQuestions 124 = .ok (.istore 8, 2) := by decide +kernel
theorem d_M_countQuestions_126 : decode b_M_countQuestions 126 = .ok (.iload 8, 2) := by decide +kernel
theorem d_M_countQuestions_128 : decode b_M_countQuestions 128 = .ok (.iload 6, 2) := by decide +kernel
theorem d_M_countQuestions_130 : decode b_M_countQuestions 130 = .ok (.if_icmp .ge 61, 3) := by decide +kernel
theorem d_M_countQuestions_133 : decode b_M_countQuestions 133 = .ok (.aload_n 0, 1) := by decide +kernel
theorem d_M_countQuestions_134 : decode b_M_countQuestions 134 = .ok (.getfield 20, 3) := by decide +kernel
theorem d_M_countQuestions_137 : decode b_M_countQuestions 137 = .ok (.sipush 1024, 3) := by decide +kernel
theorem d_M_countQuestions_140 : decode b_M_countQuestions 140 = .ok (.iload 7, 2) := by decide +kernel
theorem d_M_countQuestions_142 : decode b_M_countQuestions 142 = .ok (.imul, 1) := by decide +kernel
theorem d_M_countQuestions_143 : decode b_M_countQuestions 143 = .ok (.iload 8, 2) := by decide +kernel
theorem d_M_countQuestions_145 : decode b_M_countQuestions 145 = .ok (.iadd, 1) := by decide +kernel
theorem d_M_countQuestions_146 : decode b_M_countQuestions 146 = .ok (.aload_n 0, 1) := by decide +kernel
theorem d_M_countQuestions_147 : decode b_M_countQuestions 147 = .ok (.aload_n 0, 1) := by decide +kernel
theorem d_M_countQuestions_148 : decode b_M_countQuestions 148 = .ok (.getfield 20, 3) := by decide +kernel
theorem d_M_countQuestions_151 : decode b_M_countQuestions 151 = .ok (.sipush 1024, 3) := by decide +kernel
theorem d_M_countQuestions_154 : decode b_M_countQuestions 154 = .ok (.iload 7, 2) := by decide +kernel
theorem d_M_countQuestions_156 : decode b_M_countQuestions 156 = .ok (.imul, 1) := by decide +kernel
theorem d_M_countQuestions_157 : decode b_M_countQuestions 157 = .ok (.iconst 2, 1) := by decide +kernel
theorem d_M_countQuestions_158 : decode b_M_countQuestions 158 = .ok (.iload 8, 2) := by decide +kernel
theorem d_M_countQuestions_160 : decode b_M_countQuestions 160 = .ok (.imul, 1) := by decide +kernel
theorem d_M_countQuestions_161 : decode b_M_countQuestions 161 = .ok (.iadd, 1) := by decide +kernel
theorem d_M_countQuestions_162 : decode b_M_countQuestions 162 = .ok (.iaload, 1) := by decide +kernel
theorem d_M_countQuestions_163 : decode b_M_countQuestions 163 = .ok (.aload_n 0, 1) := by decide +kernel
theorem d_M_countQuestions_164 : decode b_M_countQuestions 164 = .ok (.getfield 20, 3) := by decide +kernel
theorem d_M_countQuestions_167 : decode b_M_countQuestions 167 = .ok (.sipush 1024, 3) := by decide +kernel
theorem d_M_countQuestions_170 : decode b_M_countQuestions 170 = .ok (.iload 7, 2) := by decide +kernel
theorem d_M_countQuestions_172 : decode b_M_countQuestions 172 = .ok (.imul, 1) := by decide +kernel
theorem d_M_countQuestions_173 : decode b_M_countQuestions 173 = .ok (.iconst 2, 1) := by decide +kernel
theorem d_M_countQuestions_174 : decode b_M_countQuestions 174 = .ok (.iload 8, 2) := by decide +kernel
theorem d_M_countQuestions_176 : decode b_M_countQuestions 176 = .ok (.imul, 1) := by decide +kernel
theorem d_M_countQuestions_177 : decode b_M_countQuestions 177 = .ok (.iadd, 1) := by decide +kernel
theorem d_M_countQuestions_178 : decode b_M_countQuestions 178 = .ok (.iconst 1, 1) := by decide +kernel
theorem d_M_countQuestions_179 : decode b_M_countQuestions 179 = .ok (.iadd, 1) := by decide +kernel
theorem d_M_countQuestions_180 : decode b_M_countQuestions 180 = .ok (.iaload, 1) := by decide +kernel
theorem d_M_countQuestions_181 : decode b_M_countQuestions 181 = .ok (.invokevirtual 91, 3) := by decide +kernel
theorem d_M_countQuestions_184 : decode b_M_countQuestions 184 = .ok (.iastore, 1) := by decide +kernel
theorem d_M_countQuestions_185 : decode b_M_countQuestions 185 = .ok (.iinc 8 1, 3) := by decide +kernel
theorem d_M_countQuestions_188 : decode b_M_countQuestions 188 = .ok (.goto (-62), 3) := by decide +kernel
theorem d_M_countQuestions_191 : decode b_M_countQuestions 191 = .ok (.iinc 7 1, 3) := by decide +kernel
theorem d_M_countQuestions_194 : decode b_M_countQuestions 194 = .ok (.goto (-77), 3) := by decide +kernel
theorem d_M_countQuestions_197 : decode b_M_countQuestions 197 = .ok (.aload_n 0, 1) := by decide +kernel
theorem d_M_countQuestions_198 : decode b_M_countQuestions 198 = .ok (.getfield 36, 3) := by decide +kernel
theorem d_M_countQuestions_201 : decode b_M_countQuestions 201 = .ok (.aload_n 0, 1) := by decide +kernel
theorem d_M_countQuestions_202 : decode b_M_countQuestions 202 = .ok (.getfield 16, 3) := by decide +kernel
theorem d_M_countQuestions_205 : decode b_M_countQuestions 205 = .ok (.iload 4, 2) := by decide +kernel
theorem d_M_countQuestions_207 : decode b_M_countQuestions 207 = .ok (.iaload, 1) := by decide +kernel
theorem d_M_countQuestions_208 : decode b_M_countQuestions 208 = .ok (.aload_n 0, 1) := by decide +kernel
theorem d_M_countQuestions_209 : decode b_M_countQuestions 209 = .ok (.getfield 84, 3) := by decide +kernel
theorem d_M_countQuestions_212 : decode b_M_countQuestions 212 = .ok (.iload 5, 2) := by decide +kernel
theorem d_M_countQuestions_214 : decode b_M_countQuestions 214 = .ok (.isub, 1) := by decide +kernel
theorem d_M_countQuestions_215 : decode b_M_countQuestions 215 = .ok (.iastore, 1) := by decide +kernel
theorem d_M_countQuestions_216 : decode b_M_countQuestions 216 = .ok (.iinc 4 (-1), 3) := by decide +kernel
theorem d_M_countQuestions_219 : decode b_M_countQuestions 219 = .ok (.goto (-132), 3) := by decide +kernel
theorem d_M_countQuestions_222 : decode b_M_countQuestions 222 = .ok (.aload_n 0, 1) := by decide +kernel
theorem d_M_countQuestions_223 : decode b_M_countQuestions 223 = .ok (.getfield 84, 3) := by decide +kernel
theorem d_M_countQuestions_226 : decode b_M_countQuestions 226 = .ok (.ireturn, 1) := by decide +kernel
theorem d_M_whole_0 : decode b_M_whole 0 = .ok (.aload_n 0, 1) := by decide +kernel
theorem d_M_whole_1 : decode b_M_whole 1 = .ok (.iconst 0, 1) := by decide +kernel
theorem d_M_whole_2 : decode b_M_whole 2 = .ok (.bipush 23, 2) := by decide +kernel
theorem d_M_whole_4 : decode b_M_whole 4 = .ok (.invokevirtual 95, 3) := by decide +kernel
theorem d_M_whole_7 : decode b_M_whole 7 = .ok (.ireturn, 1) := by decide +kernel
theorem d_M_size_0 : decode b_M_size 0 = .ok (.aload_n 0, 1) := by decide +kernel
theorem d_M_size_1 : decode b_M_size 1 = .ok (.iload_n 1, 1) := by decide +kernel
theorem d_M_size_2 : decode b_M_size 2 = .ok (.iconst (-1), 1) := by decide +kernel
theorem d_M_size_3 : decode b_M_size 3 = .ok (.if_icmp .eq 14, 3) := by decide +kernel
theorem d_M_size_6 : decode b_M_size 6 = .ok (.iload_n 1, 1) := by decide +kernel
theorem d_M_size_7 : decode b_M_size 7 = .ok (.invokestatic 53, 3) := by decide +kernel
theorem d_M_size_10 : decode b_M_size 10 = .ok (.ifCond .ne 7, 3) := by decide +kernel
theorem d_M_size_13 : decode b_M_size 13 = .ok (.iconst 1, 1) := by decide +kernel
theorem d_M_size_14 : decode b_M_size 14 = .ok (.goto 4, 3) := by decide +kernel
theorem d_M_size_17 : decode b_M_size 17 = .ok (.iconst 0, 1) := by decide +kernel
theorem d_M_size_18 : decode b_M_size 18 = .ok (.iconst 0, 1) := by decide +kernel
theorem d_M_size_19 : decode b_M_size 19 = .ok (.invokevirtual 57, 3) := by decide +kernel
theorem d_M_size_22 : decode b_M_size 22 = .ok (.ifCond .eq 5, 3) := by decide +kernel
theorem d_M_size_25 : decode b_M_size 25 = .ok (.iconst 0, 1) := by decide +kernel
theorem d_M_size_26 : decode b_M_size 26 = .ok (.ireturn, 1) := by decide +kernel
theorem d_M_size_27 : decode b_M_size 27 = .ok (.iload_n 1, 1) := by decide +kernel
theorem d_M_size_28 : decode b_M_size 28 = .ok (.iconst (-1), 1) := by decide +kernel
theorem d_M_size_29 : decode b_M_size 29 = .ok (.if_icmp .ne 10, 3) := by decide +kernel
theorem d_M_size_32 : decode b_M_size 32 = .ok (.aload_n 0, 1) := by decide +kernel
theorem d_M_size_33 : decode b_M_size 33 = .ok (.invokevirtual 98, 3) := by decide +kernel
theorem d_M_size_36 : decode b_M_size 36 = .ok (.goto 9, 3) := by decide +kernel
theorem d_M_size_39 : decode b_M_size 39 = .ok (.aload_n 0, 1) := by decide +kernel
theorem d_M_size_40 : decode b_M_size 40 = .ok (.iload_n 1, 1) := by decide +kernel
theorem d_M_size_41 : decode b_M_size 41 = .ok (.iload_n 1, 1) := by decide +kernel
theorem d_M_size_42 : decode b_M_size 42 = .ok (.invokevirtual 95, 3) := by decide +kernel
theorem d_M_size_45 : decode b_M_size 45 = .ok (.ireturn, 1) := by decide +kernel
theorem d_M_questions_0 : decode b_M_questions 0 = .ok (.aload_n 0, 1) := by decide +kernel
theorem d_M_questions_1 : decode b_M_questions 1 = .ok (.iload_n 1, 1) := by decide +kernel
theorem d_M_questions_2 : decode b_M_questions 2 = .ok (.invokestatic 61, 3) := by decide +kernel
theorem d_M_questions_5 : decode b_M_questions 5 = .ok (.ifCond .ne 7, 3) := by decide +kernel
theorem d_M_questions_8 : decode b_M_questions 8 = .ok (.iconst 1, 1) := by decide +kernel
theorem d_M_questions_9 : decode b_M_questions 9 = .ok (.goto 4, 3) := by decide +kernel
theorem d_M_questions_12 : decode b_M_questions 12 = .ok (.iconst 0, 1) := by decide +kernel
theorem d_M_questions_13 : decode b_M_questions 13 = .ok (.iconst 0, 1) := by decide +kernel
theorem d_M_questions_14 : decode b_M_questions 14 = .ok (.invokevirtual 57, 3) := by decide +kernel
theorem d_M_questions_17 : decode b_M_questions 17 = .ok (.ifCond .eq 5, 3) := by decide +kernel
theorem d_M_questions_20 : decode b_M_questions 20 = .ok (.iconst 0, 1) := by decide +kernel
theorem d_M_questions_21 : decode b_M_questions 21 = .ok (.ireturn, 1) := by decide +kernel
theorem d_M_questions_22 : decode b_M_questions 22 = .ok (.aload_n 0, 1) := by decide +kernel
theorem d_M_questions_23 : decode b_M_questions 23 = .ok (.invokevirtual 98, 3) := by decide +kernel
theorem d_M_questions_26 : decode b_M_questions 26 = .ok (.pop, 1) := by decide +kernel
theorem d_M_questions_27 : decode b_M_questions 27 = .ok (.aload_n 0, 1) := by decide +kernel
theorem d_M_questions_28 : decode b_M_questions 28 = .ok (.getfield 36, 3) := by decide +kernel
theorem d_M_questions_31 : decode b_M_questions 31 = .ok (.iload_n 1, 1) := by decide +kernel
theorem d_M_questions_32 : decode b_M_questions 32 = .ok (.iaload, 1) := by decide +kernel
theorem d_M_questions_33 : decode b_M_questions 33 = .ok (.ireturn, 1) := by decide +kernel
theorem d_M_placeOf_0 : decode b_M_placeOf 0 = .ok (.iconst 0, 1) := by decide +kernel
theorem d_M_placeOf_1 : decode b_M_placeOf 1 = .ok (.istore_n 2, 1) := by decide +kernel
theorem d_M_placeOf_2 : decode b_M_placeOf 2 = .ok (.aload_n 0, 1) := by decide +kernel
theorem d_M_placeOf_3 : decode b_M_placeOf 3 = .ok (.getfield 16, 3) := by decide +kernel
theorem d_M_placeOf_6 : decode b_M_placeOf 6 = .ok (.iload_n 2, 1) := by decide +kernel
theorem d_M_placeOf_7 : decode b_M_placeOf 7 = .ok (.iaload, 1) := by decide +kernel
theorem d_M_placeOf_8 : decode b_M_placeOf 8 = .ok (.iload_n 1, 1) := by decide +kernel
theorem d_M_placeOf_9 : decode b_M_placeOf 9 = .ok (.if_icmp .eq 9, 3) := by decide +kernel
theorem d_M_placeOf_12 : decode b_M_placeOf 12 = .ok (.iinc 2 1, 3) := by decide +kernel
theorem d_M_placeOf_15 : decode b_M_placeOf 15 = .ok (.goto (-13), 3) := by decide +kernel
theorem d_M_placeOf_18 : decode b_M_placeOf 18 = .ok (.iload_n 2, 1) := by decide +kernel
theorem d_M_placeOf_19 : decode b_M_placeOf 19 = .ok (.ireturn, 1) := by decide +kernel
theorem d_M_moveTo_0 : decode b_M_moveTo 0 = .ok (.aload_n 0, 1) := by decide +kernel
theorem d_M_moveTo_1 : decode b_M_moveTo 1 = .ok (.iload_n 1, 1) := by decide +kernel
theorem d_M_moveTo_2 : decode b_M_moveTo 2 = .ok (.invokevirtual 102, 3) := by decide +kernel
theorem d_M_moveTo_5 : decode b_M_moveTo 5 = .ok (.istore_n 3, 1) := by decide +kernel
theorem d_M_moveTo_6 : decode b_M_moveTo 6 = .ok (.iload_n 3, 1) := by decide +kernel
theorem d_M_moveTo_7 : decode b_M_moveTo 7 = .ok (.istore 4, 2) := by decide +kernel
theorem d_M_moveTo_9 : decode b_M_moveTo 9 = .ok (.iload 4, 2) := by decide +kernel
theorem d_M_moveTo_11 : decode b_M_moveTo 11 = .ok (.iconst 1, 1) := by decide +kernel
theorem d_M_moveTo_12 : decode b_M_moveTo 12 = .ok (.iadd, 1) := by decide +kernel
theorem d_M_moveTo_13 : decode b_M_moveTo 13 = .ok (.bipush 10, 2) := by decide +kernel
theorem d_M_moveTo_15 : decode b_M_moveTo 15 = .ok (.if_icmp .ge 25, 3) := by decide +kernel
theorem d_M_moveTo_18 : decode b_M_moveTo 18 = .ok (.aload_n 0, 1) := by decide +kernel
theorem d_M_moveTo_19 : decode b_M_moveTo 19 = .ok (.getfield 16, 3) := by decide +kernel
theorem d_M_moveTo_22 : decode b_M_moveTo 22 = .ok (.iload 4, 2) := by decide +kernel
theorem d_M_moveTo_24 : decode b_M_moveTo 24 = .ok (.aload_n 0, 1) := by decide +kernel
theorem d_M_moveTo_25 : decode b_M_moveTo 25 = .ok (.getfield 16, 3) := by decide +kernel
theorem d_M_moveTo_28 : decode b_M_moveTo 28 = .ok (.iload 4, 2) := by decide +kernel
theorem d_M_moveTo_30 : decode b_M_moveTo 30 = .ok (.iconst 1, 1) := by decide +kernel
theorem d_M_moveTo_31 : decode b_M_moveTo 31 = .ok (.iadd, 1) := by decide +kernel
theorem d_M_moveTo_32 : decode b_M_moveTo 32 = .ok (.iaload, 1) := by decide +kernel
theorem d_M_moveTo_33 : decode b_M_moveTo 33 = .ok (.iastore, 1) := by decide +kernel
theorem d_M_moveTo_34 : decode b_M_moveTo 34 = .ok (.iinc 4 1, 3) := by decide +kernel
theorem d_M_moveTo_37 : decode b_M_moveTo 37 = .ok (.goto (-28), 3) := by decide +kernel
theorem d_M_moveTo_40 : decode b_M_moveTo 40 = .ok (.bipush 9, 2) := by decide +kernel
theorem d_M_moveTo_42 : decode b_M_moveTo 42 = .ok (.istore 4, 2) := by decide +kernel
theorem d_M_moveTo_44 : decode b_M_moveTo 44 = .ok (.iload 4, 2) := by decide +kernel
theorem d_M_moveTo_46 : decode b_M_moveTo 46 = .ok (.iload_n 2, 1) := by decide +kernel
theorem d_M_moveTo_47 : decode b_M_moveTo 47 = .ok (.if_icmp .le 25, 3) := by decide +kernel
theorem d_M_moveTo_50 : decode b_M_moveTo 50 = .ok (.aload_n 0, 1) := by decide +kernel
theorem d_M_moveTo_51 : decode b_M_moveTo 51 = .ok (.getfield 16, 3) := by decide +kernel
theorem d_M_moveTo_54 : decode b_M_moveTo 54 = .ok (.iload 4, 2) := by decide +kernel
theorem d_M_moveTo_56 : decode b_M_moveTo 56 = .ok (.aload_n 0, 1) := by decide +kernel
theorem d_M_moveTo_57 : decode b_M_moveTo 57 = .ok (.getfield 16, 3) := by decide +kernel
theorem d_M_moveTo_60 : decode b_M_moveTo 60 = .ok (.iload 4, 2) := by decide +kernel
theorem d_M_moveTo_62 : decode b_M_moveTo 62 = .ok (.iconst 1, 1) := by decide +kernel
theorem d_M_moveTo_63 : decode b_M_moveTo 63 = .ok (.isub, 1) := by decide +kernel
theorem d_M_moveTo_64 : decode b_M_moveTo 64 = .ok (.iaload, 1) := by decide +kernel
theorem d_M_moveTo_65 : decode b_M_moveTo 65 = .ok (.iastore, 1) := by decide +kernel
theorem d_M_moveTo_66 : decode b_M_moveTo 66 = .ok (.iinc 4 (-1), 3) := by decide +kernel
theorem d_M_moveTo_69 : decode b_M_moveTo 69 = .ok (.goto (-25), 3) := by decide +kernel
theorem d_M_moveTo_72 : decode b_M_moveTo 72 = .ok (.aload_n 0, 1) := by decide +kernel
theorem d_M_moveTo_73 : decode b_M_moveTo 73 = .ok (.getfield 16, 3) := by decide +kernel
theorem d_M_moveTo_76 : decode b_M_moveTo 76 = .ok (.iload_n 2, 1) := by decide +kernel
theorem d_M_moveTo_77 : decode b_M_moveTo 77 = .ok (.iload_n 1, 1) := by decide +kernel
theorem d_M_moveTo_78 : decode b_M_moveTo 78 = .ok (.iastore, 1) := by decide +kernel
theorem d_M_moveTo_79 : decode b_M_moveTo 79 = .ok (.return_, 1) := by decide +kernel
theorem d_M_move_0 : decode b_M_move 0 = .ok (.aload_n 0, 1) := by decide +kernel
theorem d_M_move_1 : decode b_M_move 1 = .ok (.iload_n 1, 1) := by decide +kernel
theorem d_M_move_2 : decode b_M_move 2 = .ok (.invokestatic 61, 3) := by decide +kernel
theorem d_M_move_5 : decode b_M_move 5 = .ok (.ifCond .eq 13, 3) := by decide +kernel
theorem d_M_move_8 : decode b_M_move 8 = .ok (.iload_n 2, 1) := by decide +kernel
theorem d_M_move_9 : decode b_M_move 9 = .ok (.iconst 0, 1) := by decide +kernel
theorem d_M_move_10 : decode b_M_move 10 = .ok (.bipush 9, 2) := by decide +kernel
theorem d_M_move_12 : decode b_M_move 12 = .ok (.invokestatic 49, 3) := by decide +kernel
theorem d_M_move_15 : decode b_M_move 15 = .ok (.ifCond .ne 7, 3) := by decide +kernel
theorem d_M_move_18 : decode b_M_move 18 = .ok (.iconst 1, 1) := by decide +kernel
theorem d_M_move_19 : decode b_M_move 19 = .ok (.goto 4, 3) := by decide +kernel
theorem d_M_move_22 : decode b_M_move 22 = .ok (.iconst 0, 1) := by decide +kernel
theorem d_M_move_23 : decode b_M_move 23 = .ok (.iconst 0, 1) := by decide +kernel
theorem d_M_move_24 : decode b_M_move 24 = .ok (.invokevirtual 57, 3) := by decide +kernel
theorem d_M_move_27 : decode b_M_move 27 = .ok (.ifCond .eq 5, 3) := by decide +kernel
theorem d_M_move_30 : decode b_M_move 30 = .ok (.iconst 0, 1) := by decide +kernel
theorem d_M_move_31 : decode b_M_move 31 = .ok (.ireturn, 1) := by decide +kernel
theorem d_M_move_32 : decode b_M_move 32 = .ok (.aload_n 0, 1) := by decide +kernel
theorem d_M_move_33 : decode b_M_move 33 = .ok (.iload_n 1, 1) := by decide +kernel
theorem d_M_move_34 : decode b_M_move 34 = .ok (.iload_n 2, 1) := by decide +kernel
theorem d_M_move_35 : decode b_M_move 35 = .ok (.invokevirtual 105, 3) := by decide +kernel
theorem d_M_move_38 : decode b_M_move 38 = .ok (.aload_n 0, 1) := by decide +kernel
theorem d_M_move_39 : decode b_M_move 39 = .ok (.invokevirtual 98, 3) := by decide +kernel
theorem d_M_move_42 : decode b_M_move 42 = .ok (.ireturn, 1) := by decide +kernel
theorem d_M_siftInput_0 : decode b_M_siftInput 0 = .ok (.iconst (-1), 1) := by decide +kernel
theorem d_M_siftInput_1 : decode b_M_siftInput 1 = .ok (.istore_n 2, 1) := by decide +kernel
theorem d_M_siftInput_2 : decode b_M_siftInput 2 = .ok (.iconst 0, 1) := by decide +kernel
theorem d_M_siftInput_3 : decode b_M_siftInput 3 = .ok (.istore_n 3, 1) := by decide +kernel
theorem d_M_siftInput_4 : decode b_M_siftInput 4 = .ok (.iconst 0, 1) := by decide +kernel
theorem d_M_siftInput_5 : decode b_M_siftInput 5 = .ok (.istore 4, 2) := by decide +kernel
theorem d_M_siftInput_7 : decode b_M_siftInput 7 = .ok (.iload 4, 2) := by decide +kernel
theorem d_M_siftInput_9 : decode b_M_siftInput 9 = .ok (.bipush 10, 2) := by decide +kernel
theorem d_M_siftInput_11 : decode b_M_siftInput 11 = .ok (.if_icmp .ge 52, 3) := by decide +kernel
theorem d_M_siftInput_14 : decode b_M_siftInput 14 = .ok (.aload_n 0, 1) := by decide +kernel
theorem d_M_siftInput_15 : decode b_M_siftInput 15 = .ok (.iload_n 1, 1) := by decide +kernel
theorem d_M_siftInput_16 : decode b_M_siftInput 16 = .ok (.iload 4, 2) := by decide +kernel
theorem d_M_siftInput_18 : decode b_M_siftInput 18 = .ok (.invokevirtual 105, 3) := by decide +kernel
theorem d_M_siftInput_21 : decode b_M_siftInput 21 = .ok (.aload_n 0, 1) := by decide +kernel
theorem d_M_siftInput_22 : decode b_M_siftInput 22 = .ok (.invokevirtual 98, 3) := by decide +kernel
theorem d_M_siftInput_25 : decode b_M_siftInput 25 = .ok (.istore 5, 2) := by decide +kernel
theorem d_M_siftInput_27 : decode b_M_siftInput 27 = .ok (.iload_n 2, 1) := by decide +kernel
theorem d_M_siftInput_28 : decode b_M_siftInput 28 = .ok (.ifCond .lt 9, 3) := by decide +kernel
theorem d_M_siftInput_31 : decode b_M_siftInput 31 = .ok (.iload 5, 2) := by decide +kernel
theorem d_M_siftInput_33 : decode b_M_siftInput 33 = .ok (.iload_n 3, 1) := by decide +kernel
theorem d_M_siftInput_34 : decode b_M_siftInput 34 = .ok (.if_icmp .ge 8, 3) := by decide +kernel
theorem d_M_siftInput_37 : decode b_M_siftInput 37 = .ok (.iload 4, 2) := by decide +kernel
theorem d_M_siftInput_39 : decode b_M_siftInput 39 = .ok (.goto 4, 3) := by decide +kernel
theorem d_M_siftInput_42 : decode b_M_siftInput 42 = .ok (.iload_n 2, 1) := by decide +kernel
theorem d_M_siftInput_43 : decode b_M_siftInput 43 = .ok (.istore_n 2, 1) := by decide +kernel
theorem d_M_siftInput_44 : decode b_M_siftInput 44 = .ok (.iload_n 2, 1) := by decide +kernel
theorem d_M_siftInput_45 : decode b_M_siftInput 45 = .ok (.iload 4, 2) := by decide +kernel
theorem d_M_siftInput_47 : decode b_M_siftInput 47 = .ok (.if_icmp .ne 8, 3) := by decide +kernel
theorem d_M_siftInput_50 : decode b_M_siftInput 50 = .ok (.iload 5, 2) := by decide +kernel
theorem d_M_siftInput_52 : decode b_M_siftInput 52 = .ok (.goto 4, 3) := by decide +kernel
theorem d_M_siftInput_55 : decode b_M_siftInput 55 = .ok (.iload_n 3, 1) := by decide +kernel
theorem d_M_siftInput_56 : decode b_M_siftInput 56 = .ok (.istore_n 3, 1) := by decide +kernel
theorem d_M_siftInput_57 : decode b_M_siftInput 57 = .ok (.iinc 4 1, 3) := by decide +kernel
theorem d_M_siftInput_60 : decode b_M_siftInput 60 = .ok (.goto (-53), 3) := by decide +kernel
theorem d_M_siftInput_63 : decode b_M_siftInput 63 = .ok (.aload_n 0, 1) := by decide +kernel
theorem d_M_siftInput_64 : decode b_M_siftInput 64 = .ok (.iload_n 1, 1) := by decide +kernel
theorem d_M_siftInput_65 : decode b_M_siftInput 65 = .ok (.iload_n 2, 1) := by decide +kernel
theorem d_M_siftInput_66 : decode b_M_siftInput 66 = .ok (.invokevirtual 105, 3) := by decide +kernel
theorem d_M_siftInput_69 : decode b_M_siftInput 69 = .ok (.iload_n 2, 1) := by decide +kernel
theorem d_M_siftInput_70 : decode b_M_siftInput 70 = .ok (.ireturn, 1) := by decide +kernel
theorem d_M_sift_0 : decode b_M_sift 0 = .ok (.aload_n 0, 1) := by decide +kernel
theorem d_M_sift_1 : decode b_M_sift 1 = .ok (.iload_n 1, 1) := by decide +kernel
theorem d_M_sift_2 : decode b_M_sift 2 = .ok (.invokestatic 61, 3) := by decide +kernel
theorem d_M_sift_5 : decode b_M_sift 5 = .ok (.ifCond .ne 7, 3) := by decide +kernel
theorem d_M_sift_8 : decode b_M_sift 8 = .ok (.iconst 1, 1) := by decide +kernel
theorem d_M_sift_9 : decode b_M_sift 9 = .ok (.goto 4, 3) := by decide +kernel
theorem d_M_sift_12 : decode b_M_sift 12 = .ok (.iconst 0, 1) := by decide +kernel
theorem d_M_sift_13 : decode b_M_sift 13 = .ok (.iconst 0, 1) := by decide +kernel
theorem d_M_sift_14 : decode b_M_sift 14 = .ok (.invokevirtual 57, 3) := by decide +kernel
theorem d_M_sift_17 : decode b_M_sift 17 = .ok (.ifCond .eq 7, 3) := by decide +kernel
theorem d_M_sift_20 : decode b_M_sift 20 = .ok (.iconst 0, 1) := by decide +kernel
theorem d_M_sift_21 : decode b_M_sift 21 = .ok (.goto 8, 3) := by decide +kernel
theorem d_M_sift_24 : decode b_M_sift 24 = .ok (.aload_n 0, 1) := by decide +kernel
theorem d_M_sift_25 : decode b_M_sift 25 = .ok (.iload_n 1, 1) := by decide +kernel
theorem d_M_sift_26 : decode b_M_sift 26 = .ok (.invokevirtual 109, 3) := by decide +kernel
theorem d_M_sift_29 : decode b_M_sift 29 = .ok (.ireturn, 1) := by decide +kernel
theorem d_M_siftAll_0 : decode b_M_siftAll 0 = .ok (.aload_n 0, 1) := by decide +kernel
theorem d_M_siftAll_1 : decode b_M_siftAll 1 = .ok (.iconst 0, 1) := by decide +kernel
theorem d_M_siftAll_2 : decode b_M_siftAll 2 = .ok (.putfield 45, 3) := by decide +kernel
theorem d_M_siftAll_5 : decode b_M_siftAll 5 = .ok (.aload_n 0, 1) := by decide +kernel
theorem d_M_siftAll_6 : decode b_M_siftAll 6 = .ok (.invokevirtual 98, 3) := by decide +kernel
theorem d_M_siftAll_9 : decode b_M_siftAll 9 = .ok (.pop, 1) := by decide +kernel
theorem d_M_siftAll_10 : decode b_M_siftAll 10 = .ok (.iconst 0, 1) := by decide +kernel
theorem d_M_siftAll_11 : decode b_M_siftAll 11 = .ok (.istore_n 1, 1) := by decide +kernel
theorem d_M_siftAll_12 : decode b_M_siftAll 12 = .ok (.iload_n 1, 1) := by decide +kernel
theorem d_M_siftAll_13 : decode b_M_siftAll 13 = .ok (.bipush 10, 2) := by decide +kernel
theorem d_M_siftAll_15 : decode b_M_siftAll 15 = .ok (.if_icmp .ge 28, 3) := by decide +kernel
theorem d_M_siftAll_18 : decode b_M_siftAll 18 = .ok (.aload_n 0, 1) := by decide +kernel
theorem d_M_siftAll_19 : decode b_M_siftAll 19 = .ok (.getfield 39, 3) := by decide +kernel
theorem d_M_siftAll_22 : decode b_M_siftAll 22 = .ok (.iload_n 1, 1) := by decide +kernel
theorem d_M_siftAll_23 : decode b_M_siftAll 23 = .ok (.aload_n 0, 1) := by decide +kernel
theorem d_M_siftAll_24 : decode b_M_siftAll 24 = .ok (.getfield 36, 3) := by decide +kernel
theorem d_M_siftAll_27 : decode b_M_siftAll 27 = .ok (.iload_n 1, 1) := by decide +kernel
theorem d_M_siftAll_28 : decode b_M_siftAll 28 = .ok (.iaload, 1) := by decide +kernel
theorem d_M_siftAll_29 : decode b_M_siftAll 29 = .ok (.iastore, 1) := by decide +kernel
theorem d_M_siftAll_30 : decode b_M_siftAll 30 = .ok (.aload_n 0, 1) := by decide +kernel
theorem d_M_siftAll_31 : decode b_M_siftAll 31 = .ok (.getfield 42, 3) := by decide +kernel
theorem d_M_siftAll_34 : decode b_M_siftAll 34 = .ok (.iload_n 1, 1) := by decide +kernel
theorem d_M_siftAll_35 : decode b_M_siftAll 35 = .ok (.iconst 0, 1) := by decide +kernel
theorem d_M_siftAll_36 : decode b_M_siftAll 36 = .ok (.bastore, 1) := by decide +kernel
theorem d_M_siftAll_37 : decode b_M_siftAll 37 = .ok (.iinc 1 1, 3) := by decide +kernel
theorem d_M_siftAll_40 : decode b_M_siftAll 40 = .ok (.goto (-28), 3) := by decide +kernel
theorem d_M_siftAll_43 : decode b_M_siftAll 43 = .ok (.iconst 0, 1) := by decide +kernel
theorem d_M_siftAll_44 : decode b_M_siftAll 44 = .ok (.istore_n 1, 1) := by decide +kernel
theorem d_M_siftAll_45 : decode b_M_siftAll 45 = .ok (.iload_n 1, 1) := by decide +kernel
theorem d_M_siftAll_46 : decode b_M_siftAll 46 = .ok (.bipush 10, 2) := by decide +kernel
theorem d_M_siftAll_48 : decode b_M_siftAll 48 = .ok (.if_icmp .ge 71, 3) := by decide +kernel
theorem d_M_siftAll_51 : decode b_M_siftAll 51 = .ok (.iconst (-1), 1) := by decide +kernel
theorem d_M_siftAll_52 : decode b_M_siftAll 52 = .ok (.istore_n 2, 1) := by decide +kernel
theorem d_M_siftAll_53 : decode b_M_siftAll 53 = .ok (.bipush 9, 2) := by decide +kernel
theorem d_M_siftAll_55 : decode b_M_siftAll 55 = .ok (.istore_n 3, 1) := by decide +kernel
theorem d_M_siftAll_56 : decode b_M_siftAll 56 = .ok (.iload_n 3, 1) := by decide +kernel
theorem d_M_siftAll_57 : decode b_M_siftAll 57 = .ok (.ifCond .lt 43, 3) := by decide +kernel
theorem d_M_siftAll_60 : decode b_M_siftAll 60 = .ok (.aload_n 0, 1) := by decide +kernel
theorem d_M_siftAll_61 : decode b_M_siftAll 61 = .ok (.getfield 42, 3) := by decide +kernel
theorem d_M_siftAll_64 : decode b_M_siftAll 64 = .ok (.iload_n 3, 1) := by decide +kernel
theorem d_M_siftAll_65 : decode b_M_siftAll 65 = .ok (.baload, 1) := by decide +kernel
theorem d_M_siftAll_66 : decode b_M_siftAll 66 = .ok (.ifCond .ne 26, 3) := by decide +kernel
theorem d_M_siftAll_69 : decode b_M_siftAll 69 = .ok (.iload_n 2, 1) := by decide +kernel
theorem d_M_siftAll_70 : decode b_M_siftAll 70 = .ok (.ifCond .lt 18, 3) := by decide +kernel
theorem d_M_siftAll_73 : decode b_M_siftAll 73 = .ok (.aload_n 0, 1) := by decide +kernel
theorem d_M_siftAll_74 : decode b_M_siftAll 74 = .ok (.getfield 39, 3) := by decide +kernel
theorem d_M_siftAll_77 : decode b_M_siftAll 77 = .ok (.iload_n 3, 1) := by decide +kernel
theorem d_M_siftAll_78 : decode b_M_siftAll 78 = .ok (.iaload, 1) := by decide +kernel
theorem d_M_siftAll_79 : decode b_M_siftAll 79 = .ok (.aload_n 0, 1) := by decide +kernel
theorem d_M_siftAll_80 : decode b_M_siftAll 80 = .ok (.getfield 39, 3) := by decide +kernel
theorem d_M_siftAll_83 : decode b_M_siftAll 83 = .ok (.iload_n 2, 1) := by decide +kernel
theorem d_M_siftAll_84 : decode b_M_siftAll 84 = .ok (.iaload, 1) := by decide +kernel
theorem d_M_siftAll_85 : decode b_M_siftAll 85 = .ok (.if_icmp .lt 7, 3) := by decide +kernel
theorem d_M_siftAll_88 : decode b_M_siftAll 88 = .ok (.iload_n 3, 1) := by decide +kernel
theorem d_M_siftAll_89 : decode b_M_siftAll 89 = .ok (.goto 4, 3) := by decide +kernel
theorem d_M_siftAll_92 : decode b_M_siftAll 92 = .ok (.iload_n 2, 1) := by decide +kernel
theorem d_M_siftAll_93 : decode b_M_siftAll 93 = .ok (.istore_n 2, 1) := by decide +kernel
theorem d_M_siftAll_94 : decode b_M_siftAll 94 = .ok (.iinc 3 (-1), 3) := by decide +kernel
theorem d_M_siftAll_97 : decode b_M_siftAll 97 = .ok (.goto (-41), 3) := by decide +kernel
theorem d_M_siftAll_100 : decode b_M_siftAll 100 = .ok (.aload_n 0, 1) := by decide +kernel
theorem d_M_siftAll_101 : decode b_M_siftAll 101 = .ok (.getfield 42, 3) := by decide +kernel
theorem d_M_siftAll_104 : decode b_M_siftAll 104 = .ok (.iload_n 2, 1) := by decide +kernel
theorem d_M_siftAll_105 : decode b_M_siftAll 105 = .ok (.iconst 1, 1) := by decide +kernel
theorem d_M_siftAll_106 : decode b_M_siftAll 106 = .ok (.bastore, 1) := by decide +kernel
theorem d_M_siftAll_107 : decode b_M_siftAll 107 = .ok (.aload_n 0, 1) := by decide +kernel
theorem d_M_siftAll_108 : decode b_M_siftAll 108 = .ok (.iload_n 2, 1) := by decide +kernel
theorem d_M_siftAll_109 : decode b_M_siftAll 109 = .ok (.invokevirtual 109, 3) := by decide +kernel
theorem d_M_siftAll_112 : decode b_M_siftAll 112 = .ok (.pop, 1) := by decide +kernel
theorem d_M_siftAll_113 : decode b_M_siftAll 113 = .ok (.iinc 1 1, 3) := by decide +kernel
theorem d_M_siftAll_116 : decode b_M_siftAll 116 = .ok (.goto (-71), 3) := by decide +kernel
theorem d_M_siftAll_119 : decode b_M_siftAll 119 = .ok (.aload_n 0, 1) := by decide +kernel
theorem d_M_siftAll_120 : decode b_M_siftAll 120 = .ok (.invokevirtual 98, 3) := by decide +kernel
theorem d_M_siftAll_123 : decode b_M_siftAll 123 = .ok (.ireturn, 1) := by decide +kernel
theorem d_M_order_0 : decode b_M_order 0 = .ok (.aload_n 0, 1) := by decide +kernel
theorem d_M_order_1 : decode b_M_order 1 = .ok (.iload_n 1, 1) := by decide +kernel
theorem d_M_order_2 : decode b_M_order 2 = .ok (.invokestatic 61, 3) := by decide +kernel
theorem d_M_order_5 : decode b_M_order 5 = .ok (.ifCond .ne 7, 3) := by decide +kernel
theorem d_M_order_8 : decode b_M_order 8 = .ok (.iconst 1, 1) := by decide +kernel
theorem d_M_order_9 : decode b_M_order 9 = .ok (.goto 4, 3) := by decide +kernel
theorem d_M_order_12 : decode b_M_order 12 = .ok (.iconst 0, 1) := by decide +kernel
theorem d_M_order_13 : decode b_M_order 13 = .ok (.iconst 0, 1) := by decide +kernel
theorem d_M_order_14 : decode b_M_order 14 = .ok (.invokevirtual 57, 3) := by decide +kernel
theorem d_M_order_17 : decode b_M_order 17 = .ok (.ifCond .eq 7, 3) := by decide +kernel
theorem d_M_order_20 : decode b_M_order 20 = .ok (.iconst 0, 1) := by decide +kernel
theorem d_M_order_21 : decode b_M_order 21 = .ok (.goto 9, 3) := by decide +kernel
theorem d_M_order_24 : decode b_M_order 24 = .ok (.aload_n 0, 1) := by decide +kernel
theorem d_M_order_25 : decode b_M_order 25 = .ok (.getfield 16, 3) := by decide +kernel
theorem d_M_order_28 : decode b_M_order 28 = .ok (.iload_n 1, 1) := by decide +kernel
theorem d_M_order_29 : decode b_M_order 29 = .ok (.iaload, 1) := by decide +kernel
theorem d_M_order_30 : decode b_M_order 30 = .ok (.ireturn, 1) := by decide +kernel
theorem d_M_count_0 : decode b_M_count 0 = .ok (.aload_n 0, 1) := by decide +kernel
theorem d_M_count_1 : decode b_M_count 1 = .ok (.iload_n 1, 1) := by decide +kernel
theorem d_M_count_2 : decode b_M_count 2 = .ok (.invokestatic 53, 3) := by decide +kernel
theorem d_M_count_5 : decode b_M_count 5 = .ok (.ifCond .ne 7, 3) := by decide +kernel
theorem d_M_count_8 : decode b_M_count 8 = .ok (.iconst 1, 1) := by decide +kernel
theorem d_M_count_9 : decode b_M_count 9 = .ok (.goto 4, 3) := by decide +kernel
theorem d_M_count_12 : decode b_M_count 12 = .ok (.iconst 0, 1) := by decide +kernel
theorem d_M_count_13 : decode b_M_count 13 = .ok (.iconst 0, 1) := by decide +kernel
theorem d_M_count_14 : decode b_M_count 14 = .ok (.invokevirtual 57, 3) := by decide +kernel
theorem d_M_count_17 : decode b_M_count 17 = .ok (.ifCond .eq 5, 3) := by decide +kernel
theorem d_M_count_20 : decode b_M_count 20 = .ok (.iconst 0, 1) := by decide +kernel
theorem d_M_count_21 : decode b_M_count 21 = .ok (.ireturn, 1) := by decide +kernel
theorem d_M_count_22 : decode b_M_count 22 = .ok (.iconst 0, 1) := by decide +kernel
theorem d_M_count_23 : decode b_M_count 23 = .ok (.istore_n 2, 1) := by decide +kernel
theorem d_M_count_24 : decode b_M_count 24 = .ok (.iconst 0, 1) := by decide +kernel
theorem d_M_count_25 : decode b_M_count 25 = .ok (.istore_n 3, 1) := by decide +kernel
theorem d_M_count_26 : decode b_M_count 26 = .ok (.iload_n 3, 1) := by decide +kernel
theorem d_M_count_27 : decode b_M_count 27 = .ok (.sipush 1024, 3) := by decide +kernel
theorem d_M_count_30 : decode b_M_count 30 = .ok (.if_icmp .ge 26, 3) := by decide +kernel
theorem d_M_count_33 : decode b_M_count 33 = .ok (.aload_n 0, 1) := by decide +kernel
theorem d_M_count_34 : decode b_M_count 34 = .ok (.iload_n 1, 1) := by decide +kernel
theorem d_M_count_35 : decode b_M_count 35 = .ok (.iload_n 3, 1) := by decide +kernel
theorem d_M_count_36 : decode b_M_count 36 = .ok (.invokevirtual 64, 3) := by decide +kernel
theorem d_M_count_39 : decode b_M_count 39 = .ok (.ifCond .eq 9, 3) := by decide +kernel
theorem d_M_count_42 : decode b_M_count 42 = .ok (.iload_n 2, 1) := by decide +kernel
theorem d_M_count_43 : decode b_M_count 43 = .ok (.iconst 1, 1) := by decide +kernel
theorem d_M_count_44 : decode b_M_count 44 = .ok (.iadd, 1) := by decide +kernel
theorem d_M_count_45 : decode b_M_count 45 = .ok (.goto 4, 3) := by decide +kernel
theorem d_M_count_48 : decode b_M_count 48 = .ok (.iload_n 2, 1) := by decide +kernel
theorem d_M_count_49 : decode b_M_count 49 = .ok (.istore_n 2, 1) := by decide +kernel
theorem d_M_count_50 : decode b_M_count 50 = .ok (.iinc 3 1, 3) := by decide +kernel
theorem d_M_count_53 : decode b_M_count 53 = .ok (.goto (-27), 3) := by decide +kernel
theorem d_M_count_56 : decode b_M_count 56 = .ok (.iload_n 2, 1) := by decide +kernel
theorem d_M_count_57 : decode b_M_count 57 = .ok (.ireturn, 1) := by decide +kernel
theorem d_M_value_0 : decode b_M_value 0 = .ok (.aload_n 0, 1) := by decide +kernel
theorem d_M_value_1 : decode b_M_value 1 = .ok (.iload_n 1, 1) := by decide +kernel
theorem d_M_value_2 : decode b_M_value 2 = .ok (.invokestatic 53, 3) := by decide +kernel
theorem d_M_value_5 : decode b_M_value 5 = .ok (.ifCond .ne 7, 3) := by decide +kernel
theorem d_M_value_8 : decode b_M_value 8 = .ok (.iconst 1, 1) := by decide +kernel
theorem d_M_value_9 : decode b_M_value 9 = .ok (.goto 4, 3) := by decide +kernel
theorem d_M_value_12 : decode b_M_value 12 = .ok (.iconst 0, 1) := by decide +kernel
theorem d_M_value_13 : decode b_M_value 13 = .ok (.iload_n 1, 1) := by decide +kernel
theorem d_M_value_14 : decode b_M_value 14 = .ok (.invokestatic 53, 3) := by decide +kernel
theorem d_M_value_17 : decode b_M_value 17 = .ok (.ifCond .eq 18, 3) := by decide +kernel
theorem d_M_value_20 : decode b_M_value 20 = .ok (.iload_n 2, 1) := by decide +kernel
theorem d_M_value_21 : decode b_M_value 21 = .ok (.iconst 0, 1) := by decide +kernel
theorem d_M_value_22 : decode b_M_value 22 = .ok (.sipush 1023, 3) := by decide +kernel
theorem d_M_value_25 : decode b_M_value 25 = .ok (.invokestatic 49, 3) := by decide +kernel
theorem d_M_value_28 : decode b_M_value 28 = .ok (.ifCond .ne 7, 3) := by decide +kernel
theorem d_M_value_31 : decode b_M_value 31 = .ok (.iconst 1, 1) := by decide +kernel
theorem d_M_value_32 : decode b_M_value 32 = .ok (.goto 4, 3) := by decide +kernel
theorem d_M_value_35 : decode b_M_value 35 = .ok (.iconst 0, 1) := by decide +kernel
theorem d_M_value_36 : decode b_M_value 36 = .ok (.invokevirtual 57, 3) := by decide +kernel
theorem d_M_value_39 : decode b_M_value 39 = .ok (.ifCond .eq 5, 3) := by decide +kernel
theorem d_M_value_42 : decode b_M_value 42 = .ok (.iconst 0, 1) := by decide +kernel
theorem d_M_value_43 : decode b_M_value 43 = .ok (.ireturn, 1) := by decide +kernel
theorem d_M_value_44 : decode b_M_value 44 = .ok (.aload_n 0, 1) := by decide +kernel
theorem d_M_value_45 : decode b_M_value 45 = .ok (.iload_n 1, 1) := by decide +kernel
theorem d_M_value_46 : decode b_M_value 46 = .ok (.iload_n 2, 1) := by decide +kernel
theorem d_M_value_47 : decode b_M_value 47 = .ok (.invokevirtual 64, 3) := by decide +kernel
theorem d_M_value_50 : decode b_M_value 50 = .ok (.ireturn, 1) := by decide +kernel
theorem d_M_least_0 : decode b_M_least 0 = .ok (.aload_n 0, 1) := by decide +kernel
theorem d_M_least_1 : decode b_M_least 1 = .ok (.iload_n 1, 1) := by decide +kernel
theorem d_M_least_2 : decode b_M_least 2 = .ok (.invokestatic 53, 3) := by decide +kernel
theorem d_M_least_5 : decode b_M_least 5 = .ok (.ifCond .ne 7, 3) := by decide +kernel
theorem d_M_least_8 : decode b_M_least 8 = .ok (.iconst 1, 1) := by decide +kernel
theorem d_M_least_9 : decode b_M_least 9 = .ok (.goto 4, 3) := by decide +kernel
theorem d_M_least_12 : decode b_M_least 12 = .ok (.iconst 0, 1) := by decide +kernel
theorem d_M_least_13 : decode b_M_least 13 = .ok (.iconst 0, 1) := by decide +kernel
theorem d_M_least_14 : decode b_M_least 14 = .ok (.invokevirtual 57, 3) := by decide +kernel
theorem d_M_least_17 : decode b_M_least 17 = .ok (.ifCond .eq 5, 3) := by decide +kernel
theorem d_M_least_20 : decode b_M_least 20 = .ok (.iconst 0, 1) := by decide +kernel
theorem d_M_least_21 : decode b_M_least 21 = .ok (.ireturn, 1) := by decide +kernel
theorem d_M_least_22 : decode b_M_least 22 = .ok (.iconst (-1), 1) := by decide +kernel
theorem d_M_least_23 : decode b_M_least 23 = .ok (.istore_n 2, 1) := by decide +kernel
theorem d_M_least_24 : decode b_M_least 24 = .ok (.sipush 1023, 3) := by decide +kernel
theorem d_M_least_27 : decode b_M_least 27 = .ok (.istore_n 3, 1) := by decide +kernel
theorem d_M_least_28 : decode b_M_least 28 = .ok (.iload_n 3, 1) := by decide +kernel
theorem d_M_least_29 : decode b_M_least 29 = .ok (.ifCond .lt 24, 3) := by decide +kernel
theorem d_M_least_32 : decode b_M_least 32 = .ok (.aload_n 0, 1) := by decide +kernel
theorem d_M_least_33 : decode b_M_least 33 = .ok (.iload_n 1, 1) := by decide +kernel
theorem d_M_least_34 : decode b_M_least 34 = .ok (.iload_n 3, 1) := by decide +kernel
theorem d_M_least_35 : decode b_M_least 35 = .ok (.invokevirtual 64, 3) := by decide +kernel
theorem d_M_least_38 : decode b_M_least 38 = .ok (.ifCond .eq 7, 3) := by decide +kernel
theorem d_M_least_41 : decode b_M_least 41 = .ok (.iload_n 3, 1) := by decide +kernel
theorem d_M_least_42 : decode b_M_least 42 = .ok (.goto 4, 3) := by decide +kernel
theorem d_M_least_45 : decode b_M_least 45 = .ok (.iload_n 2, 1) := by decide +kernel
theorem d_M_least_46 : decode b_M_least 46 = .ok (.istore_n 2, 1) := by decide +kernel
theorem d_M_least_47 : decode b_M_least 47 = .ok (.iinc 3 (-1), 3) := by decide +kernel
theorem d_M_least_50 : decode b_M_least 50 = .ok (.goto (-22), 3) := by decide +kernel
theorem d_M_least_53 : decode b_M_least 53 = .ok (.iload_n 2, 1) := by decide +kernel
theorem d_M_least_54 : decode b_M_least 54 = .ok (.ireturn, 1) := by decide +kernel
theorem d_M_support_0 : decode b_M_support 0 = .ok (.aload_n 0, 1) := by decide +kernel
theorem d_M_support_1 : decode b_M_support 1 = .ok (.iload_n 1, 1) := by decide +kernel
theorem d_M_support_2 : decode b_M_support 2 = .ok (.invokestatic 53, 3) := by decide +kernel
theorem d_M_support_5 : decode b_M_support 5 = .ok (.ifCond .ne 7, 3) := by decide +kernel
theorem d_M_support_8 : decode b_M_support 8 = .ok (.iconst 1, 1) := by decide +kernel
theorem d_M_support_9 : decode b_M_support 9 = .ok (.goto 4, 3) := by decide +kernel
theorem d_M_support_12 : decode b_M_support 12 = .ok (.iconst 0, 1) := by decide +kernel
theorem d_M_support_13 : decode b_M_support 13 = .ok (.iconst 0, 1) := by decide +kernel
theorem d_M_support_14 : decode b_M_support 14 = .ok (.invokevirtual 57, 3) := by decide +kernel
theorem d_M_support_17 : decode b_M_support 17 = .ok (.ifCond .eq 5, 3) := by decide +kernel
theorem d_M_support_20 : decode b_M_support 20 = .ok (.iconst 0, 1) := by decide +kernel
theorem d_M_support_21 : decode b_M_support 21 = .ok (.ireturn, 1) := by decide +kernel
theorem d_M_support_22 : decode b_M_support 22 = .ok (.iconst 0, 1) := by decide +kernel
theorem d_M_support_23 : decode b_M_support 23 = .ok (.istore_n 2, 1) := by decide +kernel
theorem d_M_support_24 : decode b_M_support 24 = .ok (.iconst 0, 1) := by decide +kernel
theorem d_M_support_25 : decode b_M_support 25 = .ok (.istore_n 3, 1) := by decide +kernel
theorem d_M_support_26 : decode b_M_support 26 = .ok (.iload_n 3, 1) := by decide +kernel
theorem d_M_support_27 : decode b_M_support 27 = .ok (.sipush 1024, 3) := by decide +kernel
theorem d_M_support_30 : decode b_M_support 30 = .ok (.if_icmp .ge 56, 3) := by decide +kernel
theorem d_M_support_33 : decode b_M_support 33 = .ok (.iconst 0, 1) := by decide +kernel
theorem d_M_support_34 : decode b_M_support 34 = .ok (.istore 4, 2) := by decide +kernel
theorem d_M_support_36 : decode b_M_support 36 = .ok (.iload 4, 2) := by decide +kernel
theorem d_M_support_38 : decode b_M_support 38 = .ok (.bipush 10, 2) := by decide +kernel
theorem d_M_support_40 : decode b_M_support 40 = .ok (.if_icmp .ge 40, 3) := by decide +kernel
theorem d_M_support_43 : decode b_M_support 43 = .ok (.aload_n 0, 1) := by decide +kernel
theorem d_M_support_44 : decode b_M_support 44 = .ok (.iload_n 1, 1) := by decide +kernel
theorem d_M_support_45 : decode b_M_support 45 = .ok (.iload_n 3, 1) := by decide +kernel
theorem d_M_support_46 : decode b_M_support 46 = .ok (.invokevirtual 64, 3) := by decide +kernel
theorem d_M_support_49 : decode b_M_support 49 = .ok (.aload_n 0, 1) := by decide +kernel
theorem d_M_support_50 : decode b_M_support 50 = .ok (.iload_n 1, 1) := by decide +kernel
theorem d_M_support_51 : decode b_M_support 51 = .ok (.iload_n 3, 1) := by decide +kernel
theorem d_M_support_52 : decode b_M_support 52 = .ok (.iconst 1, 1) := by decide +kernel
theorem d_M_support_53 : decode b_M_support 53 = .ok (.iload 4, 2) := by decide +kernel
theorem d_M_support_55 : decode b_M_support 55 = .ok (.ishl, 1) := by decide +kernel
theorem d_M_support_56 : decode b_M_support 56 = .ok (.ixor, 1) := by decide +kernel
theorem d_M_support_57 : decode b_M_support 57 = .ok (.invokevirtual 64, 3) := by decide +kernel
theorem d_M_support_60 : decode b_M_support 60 = .ok (.if_icmp .eq 12, 3) := by decide +kernel
theorem d_M_support_63 : decode b_M_support 63 = .ok (.iload_n 2, 1) := by decide +kernel
theorem d_M_support_64 : decode b_M_support 64 = .ok (.iconst 1, 1) := by decide +kernel
theorem d_M_support_65 : decode b_M_support 65 = .ok (.iload 4, 2) := by decide +kernel
theorem d_M_support_67 : decode b_M_support 67 = .ok (.ishl, 1) := by decide +kernel
theorem d_M_support_68 : decode b_M_support 68 = .ok (.ior, 1) := by decide +kernel
theorem d_M_support_69 : decode b_M_support 69 = .ok (.goto 4, 3) := by decide +kernel
theorem d_M_support_72 : decode b_M_support 72 = .ok (.iload_n 2, 1) := by decide +kernel
theorem d_M_support_73 : decode b_M_support 73 = .ok (.istore_n 2, 1) := by decide +kernel
theorem d_M_support_74 : decode b_M_support 74 = .ok (.iinc 4 1, 3) := by decide +kernel
theorem d_M_support_77 : decode b_M_support 77 = .ok (.goto (-41), 3) := by decide +kernel
theorem d_M_support_80 : decode b_M_support 80 = .ok (.iinc 3 1, 3) := by decide +kernel
theorem d_M_support_83 : decode b_M_support 83 = .ok (.goto (-57), 3) := by decide +kernel
theorem d_M_support_86 : decode b_M_support 86 = .ok (.iload_n 2, 1) := by decide +kernel
theorem d_M_support_87 : decode b_M_support 87 = .ok (.ireturn, 1) := by decide +kernel
theorem d_M_alike_0 : decode b_M_alike 0 = .ok (.aload_n 0, 1) := by decide +kernel
theorem d_M_alike_1 : decode b_M_alike 1 = .ok (.iload_n 1, 1) := by decide +kernel
theorem d_M_alike_2 : decode b_M_alike 2 = .ok (.invokestatic 53, 3) := by decide +kernel
theorem d_M_alike_5 : decode b_M_alike 5 = .ok (.ifCond .eq 10, 3) := by decide +kernel
theorem d_M_alike_8 : decode b_M_alike 8 = .ok (.iload_n 2, 1) := by decide +kernel
theorem d_M_alike_9 : decode b_M_alike 9 = .ok (.invokestatic 53, 3) := by decide +kernel
theorem d_M_alike_12 : decode b_M_alike 12 = .ok (.ifCond .ne 7, 3) := by decide +kernel
theorem d_M_alike_15 : decode b_M_alike 15 = .ok (.iconst 1, 1) := by decide +kernel
theorem d_M_alike_16 : decode b_M_alike 16 = .ok (.goto 4, 3) := by decide +kernel
theorem d_M_alike_19 : decode b_M_alike 19 = .ok (.iconst 0, 1) := by decide +kernel
theorem d_M_alike_20 : decode b_M_alike 20 = .ok (.iconst 0, 1) := by decide +kernel
theorem d_M_alike_21 : decode b_M_alike 21 = .ok (.invokevirtual 57, 3) := by decide +kernel
theorem d_M_alike_24 : decode b_M_alike 24 = .ok (.ifCond .eq 5, 3) := by decide +kernel
theorem d_M_alike_27 : decode b_M_alike 27 = .ok (.iconst 0, 1) := by decide +kernel
theorem d_M_alike_28 : decode b_M_alike 28 = .ok (.ireturn, 1) := by decide +kernel
theorem d_M_alike_29 : decode b_M_alike 29 = .ok (.iconst 1, 1) := by decide +kernel
theorem d_M_alike_30 : decode b_M_alike 30 = .ok (.istore_n 3, 1) := by decide +kernel
theorem d_M_alike_31 : decode b_M_alike 31 = .ok (.iconst 0, 1) := by decide +kernel
theorem d_M_alike_32 : decode b_M_alike 32 = .ok (.istore 4, 2) := by decide +kernel
theorem d_M_alike_34 : decode b_M_alike 34 = .ok (.iload 4, 2) := by decide +kernel
theorem d_M_alike_36 : decode b_M_alike 36 = .ok (.sipush 1024, 3) := by decide +kernel
theorem d_M_alike_39 : decode b_M_alike 39 = .ok (.if_icmp .ge 36, 3) := by decide +kernel
theorem d_M_alike_42 : decode b_M_alike 42 = .ok (.iload_n 3, 1) := by decide +kernel
theorem d_M_alike_43 : decode b_M_alike 43 = .ok (.ifCond .eq 24, 3) := by decide +kernel
theorem d_M_alike_46 : decode b_M_alike 46 = .ok (.aload_n 0, 1) := by decide +kernel
theorem d_M_alike_47 : decode b_M_alike 47 = .ok (.iload_n 1, 1) := by decide +kernel
theorem d_M_alike_48 : decode b_M_alike 48 = .ok (.iload 4, 2) := by decide +kernel
theorem d_M_alike_50 : decode b_M_alike 50 = .ok (.invokevirtual 64, 3) := by decide +kernel
theorem d_M_alike_53 : decode b_M_alike 53 = .ok (.aload_n 0, 1) := by decide +kernel
theorem d_M_alike_54 : decode b_M_alike 54 = .ok (.iload_n 2, 1) := by decide +kernel
theorem d_M_alike_55 : decode b_M_alike 55 = .ok (.iload 4, 2) := by decide +kernel
theorem d_M_alike_57 : decode b_M_alike 57 = .ok (.invokevirtual 64, 3) := by decide +kernel
theorem d_M_alike_60 : decode b_M_alike 60 = .ok (.if_icmp .ne 7, 3) := by decide +kernel
theorem d_M_alike_63 : decode b_M_alike 63 = .ok (.iconst 1, 1) := by decide +kernel
theorem d_M_alike_64 : decode b_M_alike 64 = .ok (.goto 4, 3) := by decide +kernel
theorem d_M_alike_67 : decode b_M_alike 67 = .ok (.iconst 0, 1) := by decide +kernel
theorem d_M_alike_68 : decode b_M_alike 68 = .ok (.istore_n 3, 1) := by decide +kernel
theorem d_M_alike_69 : decode b_M_alike 69 = .ok (.iinc 4 1, 3) := by decide +kernel
theorem d_M_alike_72 : decode b_M_alike 72 = .ok (.goto (-38), 3) := by decide +kernel
theorem d_M_alike_75 : decode b_M_alike 75 = .ok (.iload_n 3, 1) := by decide +kernel
theorem d_M_alike_76 : decode b_M_alike 76 = .ok (.ireturn, 1) := by decide +kernel
theorem d_M_isAsked_0 : decode b_M_isAsked 0 = .ok (.iconst 0, 1) := by decide +kernel
theorem d_M_isAsked_1 : decode b_M_isAsked 1 = .ok (.istore 4, 2) := by decide +kernel
theorem d_M_isAsked_3 : decode b_M_isAsked 3 = .ok (.iconst 0, 1) := by decide +kernel
theorem d_M_isAsked_4 : decode b_M_isAsked 4 = .ok (.istore 5, 2) := by decide +kernel
theorem d_M_isAsked_6 : decode b_M_isAsked 6 = .ok (.iload 5, 2) := by decide +kernel
theorem d_M_isAsked_8 : decode b_M_isAsked 8 = .ok (.iload_n 3, 1) := by decide +kernel
theorem d_M_isAsked_9 : decode b_M_isAsked 9 = .ok (.if_icmp .ge 23, 3) := by decide +kernel
theorem d_M_isAsked_12 : decode b_M_isAsked 12 = .ok (.iload 4, 2) := by decide +kernel
theorem d_M_isAsked_14 : decode b_M_isAsked 14 = .ok (.iconst 1, 1) := by decide +kernel
theorem d_M_isAsked_15 : decode b_M_isAsked 15 = .ok (.aload_n 0, 1) := by decide +kernel
theorem d_M_isAsked_16 : decode b_M_isAsked 16 = .ok (.getfield 16, 3) := by decide +kernel
theorem d_M_isAsked_19 : decode b_M_isAsked 19 = .ok (.iload 5, 2) := by decide +kernel
theorem d_M_isAsked_21 : decode b_M_isAsked 21 = .ok (.iaload, 1) := by decide +kernel
theorem d_M_isAsked_22 : decode b_M_isAsked 22 = .ok (.ishl, 1) := by decide +kernel
theorem d_M_isAsked_23 : decode b_M_isAsked 23 = .ok (.ior, 1) := by decide +kernel
theorem d_M_isAsked_24 : decode b_M_isAsked 24 = .ok (.istore 4, 2) := by decide +kernel
theorem d_M_isAsked_26 : decode b_M_isAsked 26 = .ok (.iinc 5 1, 3) := by decide +kernel
theorem d_M_isAsked_29 : decode b_M_isAsked 29 = .ok (.goto (-23), 3) := by decide +kernel
theorem d_M_isAsked_32 : decode b_M_isAsked 32 = .ok (.iconst 0, 1) := by decide +kernel
theorem d_M_isAsked_33 : decode b_M_isAsked 33 = .ok (.istore 5, 2) := by decide +kernel
theorem d_M_isAsked_35 : decode b_M_isAsked 35 = .ok (.iconst 0, 1) := by decide +kernel
theorem d_M_isAsked_36 : decode b_M_isAsked 36 = .ok (.istore 6, 2) := by decide +kernel
theorem d_M_isAsked_38 : decode b_M_isAsked 38 = .ok (.iload 6, 2) := by decide +kernel
theorem d_M_isAsked_40 : decode b_M_isAsked 40 = .ok (.sipush 1024, 3) := by decide +kernel
theorem d_M_isAsked_43 : decode b_M_isAsked 43 = .ok (.if_icmp .ge 59, 3) := by decide +kernel
theorem d_M_isAsked_46 : decode b_M_isAsked 46 = .ok (.iload 5, 2) := by decide +kernel
theorem d_M_isAsked_48 : decode b_M_isAsked 48 = .ok (.ifCond .ne 41, 3) := by decide +kernel
theorem d_M_isAsked_51 : decode b_M_isAsked 51 = .ok (.iload 6, 2) := by decide +kernel
theorem d_M_isAsked_53 : decode b_M_isAsked 53 = .ok (.iload 4, 2) := by decide +kernel
theorem d_M_isAsked_55 : decode b_M_isAsked 55 = .ok (.iand, 1) := by decide +kernel
theorem d_M_isAsked_56 : decode b_M_isAsked 56 = .ok (.iload_n 2, 1) := by decide +kernel
theorem d_M_isAsked_57 : decode b_M_isAsked 57 = .ok (.iload 4, 2) := by decide +kernel
theorem d_M_isAsked_59 : decode b_M_isAsked 59 = .ok (.iand, 1) := by decide +kernel
theorem d_M_isAsked_60 : decode b_M_isAsked 60 = .ok (.if_icmp .ne 33, 3) := by decide +kernel
theorem d_M_isAsked_63 : decode b_M_isAsked 63 = .ok (.aload_n 0, 1) := by decide +kernel
theorem d_M_isAsked_64 : decode b_M_isAsked 64 = .ok (.iload_n 1, 1) := by decide +kernel
theorem d_M_isAsked_65 : decode b_M_isAsked 65 = .ok (.iload 6, 2) := by decide +kernel
theorem d_M_isAsked_67 : decode b_M_isAsked 67 = .ok (.invokevirtual 64, 3) := by decide +kernel
theorem d_M_isAsked_70 : decode b_M_isAsked 70 = .ok (.aload_n 0, 1) := by decide +kernel
theorem d_M_isAsked_71 : decode b_M_isAsked 71 = .ok (.iload_n 1, 1) := by decide +kernel
theorem d_M_isAsked_72 : decode b_M_isAsked 72 = .ok (.iload 6, 2) := by decide +kernel
theorem d_M_isAsked_74 : decode b_M_isAsked 74 = .ok (.iconst 1, 1) := by decide +kernel
theorem d_M_isAsked_75 : decode b_M_isAsked 75 = .ok (.aload_n 0, 1) := by decide +kernel
theorem d_M_isAsked_76 : decode b_M_isAsked 76 = .ok (.getfield 16, 3) := by decide +kernel
theorem d_M_isAsked_79 : decode b_M_isAsked 79 = .ok (.iload_n 3, 1) := by decide +kernel
theorem d_M_isAsked_80 : decode b_M_isAsked 80 = .ok (.iaload, 1) := by decide +kernel
theorem d_M_isAsked_81 : decode b_M_isAsked 81 = .ok (.ishl, 1) := by decide +kernel
theorem d_M_isAsked_82 : decode b_M_isAsked 82 = .ok (.ixor, 1) := by decide +kernel
theorem d_M_isAsked_83 : decode b_M_isAsked 83 = .ok (.invokevirtual 64, 3) := by decide +kernel
theorem d_M_isAsked_86 : decode b_M_isAsked 86 = .ok (.if_icmp .eq 7, 3) := by decide +kernel
theorem d_M_isAsked_89 : decode b_M_isAsked 89 = .ok (.iconst 1, 1) := by decide +kernel
theorem d_M_isAsked_90 : decode b_M_isAsked 90 = .ok (.goto 4, 3) := by decide +kernel
theorem d_M_isAsked_93 : decode b_M_isAsked 93 = .ok (.iconst 0, 1) := by decide +kernel
theorem d_M_isAsked_94 : decode b_M_isAsked 94 = .ok (.istore 5, 2) := by decide +kernel
theorem d_M_isAsked_96 : decode b_M_isAsked 96 = .ok (.iinc 6 1, 3) := by decide +kernel
theorem d_M_isAsked_99 : decode b_M_isAsked 99 = .ok (.goto (-61), 3) := by decide +kernel
theorem d_M_isAsked_102 : decode b_M_isAsked 102 = .ok (.iload 5, 2) := by decide +kernel
theorem d_M_isAsked_104 : decode b_M_isAsked 104 = .ok (.ireturn, 1) := by decide +kernel
theorem d_M_asked_0 : decode b_M_asked 0 = .ok (.iload_n 1, 1) := by decide +kernel
theorem d_M_asked_1 : decode b_M_asked 1 = .ok (.invokestatic 53, 3) := by decide +kernel
theorem d_M_asked_4 : decode b_M_asked 4 = .ok (.ifCond .eq 11, 3) := by decide +kernel
theorem d_M_asked_7 : decode b_M_asked 7 = .ok (.iload_n 3, 1) := by decide +kernel
theorem d_M_asked_8 : decode b_M_asked 8 = .ok (.ifCond .lt 7, 3) := by decide +kernel
theorem d_M_asked_11 : decode b_M_asked 11 = .ok (.iconst 1, 1) := by decide +kernel
theorem d_M_asked_12 : decode b_M_asked 12 = .ok (.goto 4, 3) := by decide +kernel
theorem d_M_asked_15 : decode b_M_asked 15 = .ok (.iconst 0, 1) := by decide +kernel
theorem d_M_asked_16 : decode b_M_asked 16 = .ok (.istore 4, 2) := by decide +kernel
theorem d_M_asked_18 : decode b_M_asked 18 = .ok (.aload_n 0, 1) := by decide +kernel
theorem d_M_asked_19 : decode b_M_asked 19 = .ok (.iload 4, 2) := by decide +kernel
theorem d_M_asked_21 : decode b_M_asked 21 = .ok (.ifCond .ne 7, 3) := by decide +kernel
theorem d_M_asked_24 : decode b_M_asked 24 = .ok (.iconst 1, 1) := by decide +kernel
theorem d_M_asked_25 : decode b_M_asked 25 = .ok (.goto 4, 3) := by decide +kernel
theorem d_M_asked_28 : decode b_M_asked 28 = .ok (.iconst 0, 1) := by decide +kernel
theorem d_M_asked_29 : decode b_M_asked 29 = .ok (.iload 4, 2) := by decide +kernel
theorem d_M_asked_31 : decode b_M_asked 31 = .ok (.ifCond .eq 18, 3) := by decide +kernel
theorem d_M_asked_34 : decode b_M_asked 34 = .ok (.iload_n 2, 1) := by decide +kernel
theorem d_M_asked_35 : decode b_M_asked 35 = .ok (.iconst 0, 1) := by decide +kernel
theorem d_M_asked_36 : decode b_M_asked 36 = .ok (.sipush 1023, 3) := by decide +kernel
theorem d_M_asked_39 : decode b_M_asked 39 = .ok (.invokestatic 49, 3) := by decide +kernel
theorem d_M_asked_42 : decode b_M_asked 42 = .ok (.ifCond .ne 7, 3) := by decide +kernel
theorem d_M_asked_45 : decode b_M_asked 45 = .ok (.iconst 1, 1) := by decide +kernel
theorem d_M_asked_46 : decode b_M_asked 46 = .ok (.goto 4, 3) := by decide +kernel
theorem d_M_asked_49 : decode b_M_asked 49 = .ok (.iconst 0, 1) := by decide +kernel
theorem d_M_asked_50 : decode b_M_asked 50 = .ok (.invokevirtual 57, 3) := by decide +kernel
theorem d_M_asked_53 : decode b_M_asked 53 = .ok (.ifCond .eq 5, 3) := by decide +kernel
theorem d_M_asked_56 : decode b_M_asked 56 = .ok (.iconst 0, 1) := by decide +kernel
theorem d_M_asked_57 : decode b_M_asked 57 = .ok (.ireturn, 1) := by decide +kernel
theorem d_M_asked_58 : decode b_M_asked 58 = .ok (.iconst 0, 1) := by decide +kernel
theorem d_M_asked_59 : decode b_M_asked 59 = .ok (.istore 5, 2) := by decide +kernel
theorem d_M_asked_61 : decode b_M_asked 61 = .ok (.iconst 0, 1) := by decide +kernel
theorem d_M_asked_62 : decode b_M_asked 62 = .ok (.istore 6, 2) := by decide +kernel
theorem d_M_asked_64 : decode b_M_asked 64 = .ok (.iload 6, 2) := by decide +kernel
theorem d_M_asked_66 : decode b_M_asked 66 = .ok (.bipush 10, 2) := by decide +kernel
theorem d_M_asked_68 : decode b_M_asked 68 = .ok (.if_icmp .ge 37, 3) := by decide +kernel
theorem d_M_asked_71 : decode b_M_asked 71 = .ok (.aload_n 0, 1) := by decide +kernel
theorem d_M_asked_72 : decode b_M_asked 72 = .ok (.iload_n 1, 1) := by decide +kernel
theorem d_M_asked_73 : decode b_M_asked 73 = .ok (.iload_n 2, 1) := by decide +kernel
theorem d_M_asked_74 : decode b_M_asked 74 = .ok (.iload 6, 2) := by decide +kernel
theorem d_M_asked_76 : decode b_M_asked 76 = .ok (.invokevirtual 112, 3) := by decide +kernel
theorem d_M_asked_79 : decode b_M_asked 79 = .ok (.ifCond .eq 20, 3) := by decide +kernel
theorem d_M_asked_82 : decode b_M_asked 82 = .ok (.iload 5, 2) := by decide +kernel
theorem d_M_asked_84 : decode b_M_asked 84 = .ok (.iload_n 3, 1) := by decide +kernel
theorem d_M_asked_85 : decode b_M_asked 85 = .ok (.if_icmp .ne 11, 3) := by decide +kernel
theorem d_M_asked_88 : decode b_M_asked 88 = .ok (.aload_n 0, 1) := by decide +kernel
theorem d_M_asked_89 : decode b_M_asked 89 = .ok (.getfield 16, 3) := by decide +kernel
theorem d_M_asked_92 : decode b_M_asked 92 = .ok (.iload 6, 2) := by decide +kernel
theorem d_M_asked_94 : decode b_M_asked 94 = .ok (.iaload, 1) := by decide +kernel
theorem d_M_asked_95 : decode b_M_asked 95 = .ok (.ireturn, 1) := by decide +kernel
theorem d_M_asked_96 : decode b_M_asked 96 = .ok (.iinc 5 1, 3) := by decide +kernel
theorem d_M_asked_99 : decode b_M_asked 99 = .ok (.iinc 6 1, 3) := by decide +kernel
theorem d_M_asked_102 : decode b_M_asked 102 = .ok (.goto (-38), 3) := by decide +kernel
theorem d_M_asked_105 : decode b_M_asked 105 = .ok (.iconst (-1), 1) := by decide +kernel
theorem d_M_asked_106 : decode b_M_asked 106 = .ok (.ireturn, 1) := by decide +kernel
