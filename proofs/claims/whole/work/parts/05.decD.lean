theorem d_D_init_0 : decode b_D_init 0 = .ok (.aload_n 0, 1) := by decide +kernel
theorem d_D_init_1 : decode b_D_init 1 = .ok (.invokespecial 3, 3) := by decide +kernel
theorem d_D_init_4 : decode b_D_init 4 = .ok (.aload_n 0, 1) := by decide +kernel
theorem d_D_init_5 : decode b_D_init 5 = .ok (.aload_n 1, 1) := by decide +kernel
theorem d_D_init_6 : decode b_D_init 6 = .ok (.putfield 9, 3) := by decide +kernel
theorem d_D_init_9 : decode b_D_init 9 = .ok (.aload_n 0, 1) := by decide +kernel
theorem d_D_init_10 : decode b_D_init 10 = .ok (.new 15, 3) := by decide +kernel
theorem d_D_init_13 : decode b_D_init 13 = .ok (.dup, 1) := by decide +kernel
theorem d_D_init_14 : decode b_D_init 14 = .ok (.invokespecial 17, 3) := by decide +kernel
theorem d_D_init_17 : decode b_D_init 17 = .ok (.putfield 18, 3) := by decide +kernel
theorem d_D_init_20 : decode b_D_init 20 = .ok (.aload_n 0, 1) := by decide +kernel
theorem d_D_init_21 : decode b_D_init 21 = .ok (.new 22, 3) := by decide +kernel
theorem d_D_init_24 : decode b_D_init 24 = .ok (.dup, 1) := by decide +kernel
theorem d_D_init_25 : decode b_D_init 25 = .ok (.aload_n 1, 1) := by decide +kernel
theorem d_D_init_26 : decode b_D_init 26 = .ok (.aload_n 0, 1) := by decide +kernel
theorem d_D_init_27 : decode b_D_init 27 = .ok (.getfield 18, 3) := by decide +kernel
theorem d_D_init_30 : decode b_D_init 30 = .ok (.invokespecial 24, 3) := by decide +kernel
theorem d_D_init_33 : decode b_D_init 33 = .ok (.putfield 27, 3) := by decide +kernel
theorem d_D_init_36 : decode b_D_init 36 = .ok (.aload_n 0, 1) := by decide +kernel
theorem d_D_init_37 : decode b_D_init 37 = .ok (.new 31, 3) := by decide +kernel
theorem d_D_init_40 : decode b_D_init 40 = .ok (.dup, 1) := by decide +kernel
theorem d_D_init_41 : decode b_D_init 41 = .ok (.aload_n 0, 1) := by decide +kernel
theorem d_D_init_42 : decode b_D_init 42 = .ok (.getfield 18, 3) := by decide +kernel
theorem d_D_init_45 : decode b_D_init 45 = .ok (.invokespecial 33, 3) := by decide +kernel
theorem d_D_init_48 : decode b_D_init 48 = .ok (.putfield 36, 3) := by decide +kernel
theorem d_D_init_51 : decode b_D_init 51 = .ok (.aload_n 0, 1) := by decide +kernel
theorem d_D_init_52 : decode b_D_init 52 = .ok (.bipush 10, 2) := by decide +kernel
theorem d_D_init_54 : decode b_D_init 54 = .ok (.newarray .int, 2) := by decide +kernel
theorem d_D_init_56 : decode b_D_init 56 = .ok (.putfield 40, 3) := by decide +kernel
theorem d_D_init_59 : decode b_D_init 59 = .ok (.iconst 0, 1) := by decide +kernel
theorem d_D_init_60 : decode b_D_init 60 = .ok (.istore_n 2, 1) := by decide +kernel
theorem d_D_init_61 : decode b_D_init 61 = .ok (.iload_n 2, 1) := by decide +kernel
theorem d_D_init_62 : decode b_D_init 62 = .ok (.bipush 10, 2) := by decide +kernel
theorem d_D_init_64 : decode b_D_init 64 = .ok (.if_icmp .ge 16, 3) := by decide +kernel
theorem d_D_init_67 : decode b_D_init 67 = .ok (.aload_n 0, 1) := by decide +kernel
theorem d_D_init_68 : decode b_D_init 68 = .ok (.getfield 40, 3) := by decide +kernel
theorem d_D_init_71 : decode b_D_init 71 = .ok (.iload_n 2, 1) := by decide +kernel
theorem d_D_init_72 : decode b_D_init 72 = .ok (.iload_n 2, 1) := by decide +kernel
theorem d_D_init_73 : decode b_D_init 73 = .ok (.iastore, 1) := by decide +kernel
theorem d_D_init_74 : decode b_D_init 74 = .ok (.iinc 2 1, 3) := by decide +kernel
theorem d_D_init_77 : decode b_D_init 77 = .ok (.goto (-16), 3) := by decide +kernel
theorem d_D_init_80 : decode b_D_init 80 = .ok (.aload_n 0, 1) := by decide +kernel
theorem d_D_init_81 : decode b_D_init 81 = .ok (.bipush 24, 2) := by decide +kernel
theorem d_D_init_83 : decode b_D_init 83 = .ok (.newarray .int, 2) := by decide +kernel
theorem d_D_init_85 : decode b_D_init 85 = .ok (.putfield 44, 3) := by decide +kernel
theorem d_D_init_88 : decode b_D_init 88 = .ok (.aload_n 0, 1) := by decide +kernel
theorem d_D_init_89 : decode b_D_init 89 = .ok (.iconst 0, 1) := by decide +kernel
theorem d_D_init_90 : decode b_D_init 90 = .ok (.putfield 47, 3) := by decide +kernel
theorem d_D_init_93 : decode b_D_init 93 = .ok (.aload_n 0, 1) := by decide +kernel
theorem d_D_init_94 : decode b_D_init 94 = .ok (.bipush 10, 2) := by decide +kernel
theorem d_D_init_96 : decode b_D_init 96 = .ok (.newarray .int, 2) := by decide +kernel
theorem d_D_init_98 : decode b_D_init 98 = .ok (.putfield 51, 3) := by decide +kernel
theorem d_D_init_101 : decode b_D_init 101 = .ok (.aload_n 0, 1) := by decide +kernel
theorem d_D_init_102 : decode b_D_init 102 = .ok (.iconst 1, 1) := by decide +kernel
theorem d_D_init_103 : decode b_D_init 103 = .ok (.putfield 54, 3) := by decide +kernel
theorem d_D_init_106 : decode b_D_init 106 = .ok (.aload_n 0, 1) := by decide +kernel
theorem d_D_init_107 : decode b_D_init 107 = .ok (.bipush 10, 2) := by decide +kernel
theorem d_D_init_109 : decode b_D_init 109 = .ok (.newarray .int, 2) := by decide +kernel
theorem d_D_init_111 : decode b_D_init 111 = .ok (.putfield 58, 3) := by decide +kernel
theorem d_D_init_114 : decode b_D_init 114 = .ok (.return_, 1) := by decide +kernel
theorem d_D_functionChanged_0 : decode b_D_functionChanged 0 = .ok (.aload_n 0, 1) := by decide +kernel
theorem d_D_functionChanged_1 : decode b_D_functionChanged 1 = .ok (.dup, 1) := by decide +kernel
theorem d_D_functionChanged_2 : decode b_D_functionChanged 2 = .ok (.getfield 47, 3) := by decide +kernel
theorem d_D_functionChanged_5 : decode b_D_functionChanged 5 = .ok (.iconst 1, 1) := by decide +kernel
theorem d_D_functionChanged_6 : decode b_D_functionChanged 6 = .ok (.iload_n 1, 1) := by decide +kernel
theorem d_D_functionChanged_7 : decode b_D_functionChanged 7 = .ok (.ishl, 1) := by decide +kernel
theorem d_D_functionChanged_8 : decode b_D_functionChanged 8 = .ok (.ior, 1) := by decide +kernel
theorem d_D_functionChanged_9 : decode b_D_functionChanged 9 = .ok (.putfield 47, 3) := by decide +kernel
theorem d_D_functionChanged_12 : decode b_D_functionChanged 12 = .ok (.aload_n 0, 1) := by decide +kernel
theorem d_D_functionChanged_13 : decode b_D_functionChanged 13 = .ok (.iconst 0, 1) := by decide +kernel
theorem d_D_functionChanged_14 : decode b_D_functionChanged 14 = .ok (.putfield 54, 3) := by decide +kernel
theorem d_D_functionChanged_17 : decode b_D_functionChanged 17 = .ok (.return_, 1) := by decide +kernel
theorem d_D_draw_0 : decode b_D_draw 0 = .ok (.aload_n 0, 1) := by decide +kernel
theorem d_D_draw_1 : decode b_D_draw 1 = .ok (.getfield 47, 3) := by decide +kernel
theorem d_D_draw_4 : decode b_D_draw 4 = .ok (.iload_n 1, 1) := by decide +kernel
theorem d_D_draw_5 : decode b_D_draw 5 = .ok (.iand, 1) := by decide +kernel
theorem d_D_draw_6 : decode b_D_draw 6 = .ok (.istore_n 2, 1) := by decide +kernel
theorem d_D_draw_7 : decode b_D_draw 7 = .ok (.iload_n 2, 1) := by decide +kernel
theorem d_D_draw_8 : decode b_D_draw 8 = .ok (.ifCond .eq 61, 3) := by decide +kernel
theorem d_D_draw_11 : decode b_D_draw 11 = .ok (.iload_n 2, 1) := by decide +kernel
theorem d_D_draw_12 : decode b_D_draw 12 = .ok (.invokestatic 61, 3) := by decide +kernel
theorem d_D_draw_15 : decode b_D_draw 15 = .ok (.istore_n 3, 1) := by decide +kernel
theorem d_D_draw_16 : decode b_D_draw 16 = .ok (.aload_n 0, 1) := by decide +kernel
theorem d_D_draw_17 : decode b_D_draw 17 = .ok (.getfield 27, 3) := by decide +kernel
theorem d_D_draw_20 : decode b_D_draw 20 = .ok (.iload_n 3, 1) := by decide +kernel
theorem d_D_draw_21 : decode b_D_draw 21 = .ok (.aload_n 0, 1) := by decide +kernel
theorem d_D_draw_22 : decode b_D_draw 22 = .ok (.getfield 40, 3) := by decide +kernel
theorem d_D_draw_25 : decode b_D_draw 25 = .ok (.invokevirtual 67, 3) := by decide +kernel
theorem d_D_draw_28 : decode b_D_draw 28 = .ok (.istore 4, 2) := by decide +kernel
theorem d_D_draw_30 : decode b_D_draw 30 = .ok (.aload_n 0, 1) := by decide +kernel
theorem d_D_draw_31 : decode b_D_draw 31 = .ok (.getfield 18, 3) := by decide +kernel
theorem d_D_draw_34 : decode b_D_draw 34 = .ok (.iload 4, 2) := by decide +kernel
theorem d_D_draw_36 : decode b_D_draw 36 = .ok (.invokevirtual 71, 3) := by decide +kernel
theorem d_D_draw_39 : decode b_D_draw 39 = .ok (.aload_n 0, 1) := by decide +kernel
theorem d_D_draw_40 : decode b_D_draw 40 = .ok (.getfield 18, 3) := by decide +kernel
theorem d_D_draw_43 : decode b_D_draw 43 = .ok (.aload_n 0, 1) := by decide +kernel
theorem d_D_draw_44 : decode b_D_draw 44 = .ok (.getfield 44, 3) := by decide +kernel
theorem d_D_draw_47 : decode b_D_draw 47 = .ok (.iload_n 3, 1) := by decide +kernel
theorem d_D_draw_48 : decode b_D_draw 48 = .ok (.iaload, 1) := by decide +kernel
theorem d_D_draw_49 : decode b_D_draw 49 = .ok (.invokevirtual 75, 3) := by decide +kernel
theorem d_D_draw_52 : decode b_D_draw 52 = .ok (.aload_n 0, 1) := by decide +kernel
theorem d_D_draw_53 : decode b_D_draw 53 = .ok (.getfield 44, 3) := by decide +kernel
theorem d_D_draw_56 : decode b_D_draw 56 = .ok (.iload_n 3, 1) := by decide +kernel
theorem d_D_draw_57 : decode b_D_draw 57 = .ok (.iload 4, 2) := by decide +kernel
theorem d_D_draw_59 : decode b_D_draw 59 = .ok (.iastore, 1) := by decide +kernel
theorem d_D_draw_60 : decode b_D_draw 60 = .ok (.iload_n 2, 1) := by decide +kernel
theorem d_D_draw_61 : decode b_D_draw 61 = .ok (.iload_n 2, 1) := by decide +kernel
theorem d_D_draw_62 : decode b_D_draw 62 = .ok (.iconst 1, 1) := by decide +kernel
theorem d_D_draw_63 : decode b_D_draw 63 = .ok (.isub, 1) := by decide +kernel
theorem d_D_draw_64 : decode b_D_draw 64 = .ok (.iand, 1) := by decide +kernel
theorem d_D_draw_65 : decode b_D_draw 65 = .ok (.istore_n 2, 1) := by decide +kernel
theorem d_D_draw_66 : decode b_D_draw 66 = .ok (.goto (-59), 3) := by decide +kernel
theorem d_D_draw_69 : decode b_D_draw 69 = .ok (.aload_n 0, 1) := by decide +kernel
theorem d_D_draw_70 : decode b_D_draw 70 = .ok (.dup, 1) := by decide +kernel
theorem d_D_draw_71 : decode b_D_draw 71 = .ok (.getfield 47, 3) := by decide +kernel
theorem d_D_draw_74 : decode b_D_draw 74 = .ok (.iload_n 1, 1) := by decide +kernel
theorem d_D_draw_75 : decode b_D_draw 75 = .ok (.iconst (-1), 1) := by decide +kernel
theorem d_D_draw_76 : decode b_D_draw 76 = .ok (.ixor, 1) := by decide +kernel
theorem d_D_draw_77 : decode b_D_draw 77 = .ok (.iand, 1) := by decide +kernel
theorem d_D_draw_78 : decode b_D_draw 78 = .ok (.putfield 47, 3) := by decide +kernel
theorem d_D_draw_81 : decode b_D_draw 81 = .ok (.return_, 1) := by decide +kernel
theorem d_D_sizeOf_0 : decode b_D_sizeOf 0 = .ok (.aload_n 0, 1) := by decide +kernel
theorem d_D_sizeOf_1 : decode b_D_sizeOf 1 = .ok (.getfield 18, 3) := by decide +kernel
theorem d_D_sizeOf_4 : decode b_D_sizeOf 4 = .ok (.aload_n 0, 1) := by decide +kernel
theorem d_D_sizeOf_5 : decode b_D_sizeOf 5 = .ok (.getfield 44, 3) := by decide +kernel
theorem d_D_sizeOf_8 : decode b_D_sizeOf 8 = .ok (.iload_n 1, 1) := by decide +kernel
theorem d_D_sizeOf_9 : decode b_D_sizeOf 9 = .ok (.iaload, 1) := by decide +kernel
theorem d_D_sizeOf_10 : decode b_D_sizeOf 10 = .ok (.invokevirtual 78, 3) := by decide +kernel
theorem d_D_sizeOf_13 : decode b_D_sizeOf 13 = .ok (.ireturn, 1) := by decide +kernel
theorem d_D_questionOf_0 : decode b_D_questionOf 0 = .ok (.aload_n 0, 1) := by decide +kernel
theorem d_D_questionOf_1 : decode b_D_questionOf 1 = .ok (.getfield 18, 3) := by decide +kernel
theorem d_D_questionOf_4 : decode b_D_questionOf 4 = .ok (.aload_n 0, 1) := by decide +kernel
theorem d_D_questionOf_5 : decode b_D_questionOf 5 = .ok (.getfield 44, 3) := by decide +kernel
theorem d_D_questionOf_8 : decode b_D_questionOf 8 = .ok (.iload_n 1, 1) := by decide +kernel
theorem d_D_questionOf_9 : decode b_D_questionOf 9 = .ok (.iaload, 1) := by decide +kernel
theorem d_D_questionOf_10 : decode b_D_questionOf 10 = .ok (.iload_n 2, 1) := by decide +kernel
theorem d_D_questionOf_11 : decode b_D_questionOf 11 = .ok (.iload_n 3, 1) := by decide +kernel
theorem d_D_questionOf_12 : decode b_D_questionOf 12 = .ok (.invokevirtual 81, 3) := by decide +kernel
theorem d_D_questionOf_15 : decode b_D_questionOf 15 = .ok (.ireturn, 1) := by decide +kernel
theorem d_D_inputAt_0 : decode b_D_inputAt 0 = .ok (.aload_n 0, 1) := by decide +kernel
theorem d_D_inputAt_1 : decode b_D_inputAt 1 = .ok (.getfield 40, 3) := by decide +kernel
theorem d_D_inputAt_4 : decode b_D_inputAt 4 = .ok (.iload_n 1, 1) := by decide +kernel
theorem d_D_inputAt_5 : decode b_D_inputAt 5 = .ok (.iaload, 1) := by decide +kernel
theorem d_D_inputAt_6 : decode b_D_inputAt 6 = .ok (.ireturn, 1) := by decide +kernel
theorem d_D_wholeSize_0 : decode b_D_wholeSize 0 = .ok (.aload_n 0, 1) := by decide +kernel
theorem d_D_wholeSize_1 : decode b_D_wholeSize 1 = .ok (.getfield 18, 3) := by decide +kernel
theorem d_D_wholeSize_4 : decode b_D_wholeSize 4 = .ok (.invokevirtual 85, 3) := by decide +kernel
theorem d_D_wholeSize_7 : decode b_D_wholeSize 7 = .ok (.ireturn, 1) := by decide +kernel
theorem d_D_questionsFor_0 : decode b_D_questionsFor 0 = .ok (.aload_n 0, 1) := by decide +kernel
theorem d_D_questionsFor_1 : decode b_D_questionsFor 1 = .ok (.getfield 18, 3) := by decide +kernel
theorem d_D_questionsFor_4 : decode b_D_questionsFor 4 = .ok (.iload_n 1, 1) := by decide +kernel
theorem d_D_questionsFor_5 : decode b_D_questionsFor 5 = .ok (.invokevirtual 89, 3) := by decide +kernel
theorem d_D_questionsFor_8 : decode b_D_questionsFor 8 = .ok (.ireturn, 1) := by decide +kernel
theorem d_D_moveTo_0 : decode b_D_moveTo 0 = .ok (.aload_n 0, 1) := by decide +kernel
theorem d_D_moveTo_1 : decode b_D_moveTo 1 = .ok (.iload_n 1, 1) := by decide +kernel
theorem d_D_moveTo_2 : decode b_D_moveTo 2 = .ok (.invokevirtual 92, 3) := by decide +kernel
theorem d_D_moveTo_5 : decode b_D_moveTo 5 = .ok (.aload_n 0, 1) := by decide +kernel
theorem d_D_moveTo_6 : decode b_D_moveTo 6 = .ok (.getfield 18, 3) := by decide +kernel
theorem d_D_moveTo_9 : decode b_D_moveTo 9 = .ok (.iload_n 1, 1) := by decide +kernel
theorem d_D_moveTo_10 : decode b_D_moveTo 10 = .ok (.invokevirtual 89, 3) := by decide +kernel
theorem d_D_moveTo_13 : decode b_D_moveTo 13 = .ok (.ifCond .le 14, 3) := by decide +kernel
theorem d_D_moveTo_16 : decode b_D_moveTo 16 = .ok (.aload_n 0, 1) := by decide +kernel
theorem d_D_moveTo_17 : decode b_D_moveTo 17 = .ok (.iload_n 1, 1) := by decide +kernel
theorem d_D_moveTo_18 : decode b_D_moveTo 18 = .ok (.iload_n 2, 1) := by decide +kernel
theorem d_D_moveTo_19 : decode b_D_moveTo 19 = .ok (.aload_n 0, 1) := by decide +kernel
theorem d_D_moveTo_20 : decode b_D_moveTo 20 = .ok (.iload_n 1, 1) := by decide +kernel
theorem d_D_moveTo_21 : decode b_D_moveTo 21 = .ok (.invokevirtual 95, 3) := by decide +kernel
theorem d_D_moveTo_24 : decode b_D_moveTo 24 = .ok (.invokevirtual 98, 3) := by decide +kernel
theorem d_D_moveTo_27 : decode b_D_moveTo 27 = .ok (.aload_n 0, 1) := by decide +kernel
theorem d_D_moveTo_28 : decode b_D_moveTo 28 = .ok (.iload_n 1, 1) := by decide +kernel
theorem d_D_moveTo_29 : decode b_D_moveTo 29 = .ok (.iload_n 2, 1) := by decide +kernel
theorem d_D_moveTo_30 : decode b_D_moveTo 30 = .ok (.invokevirtual 102, 3) := by decide +kernel
theorem d_D_moveTo_33 : decode b_D_moveTo 33 = .ok (.return_, 1) := by decide +kernel
theorem d_D_takeOut_0 : decode b_D_takeOut 0 = .ok (.aload_n 0, 1) := by decide +kernel
theorem d_D_takeOut_1 : decode b_D_takeOut 1 = .ok (.getfield 40, 3) := by decide +kernel
theorem d_D_takeOut_4 : decode b_D_takeOut 4 = .ok (.astore_n 2, 1) := by decide +kernel
theorem d_D_takeOut_5 : decode b_D_takeOut 5 = .ok (.iconst 0, 1) := by decide +kernel
theorem d_D_takeOut_6 : decode b_D_takeOut 6 = .ok (.istore_n 3, 1) := by decide +kernel
theorem d_D_takeOut_7 : decode b_D_takeOut 7 = .ok (.iload_n 3, 1) := by decide +kernel
theorem d_D_takeOut_8 : decode b_D_takeOut 8 = .ok (.bipush 9, 2) := by decide +kernel
theorem d_D_takeOut_10 : decode b_D_takeOut 10 = .ok (.if_icmp .ge 16, 3) := by decide +kernel
theorem d_D_takeOut_13 : decode b_D_takeOut 13 = .ok (.aload_n 2, 1) := by decide +kernel
theorem d_D_takeOut_14 : decode b_D_takeOut 14 = .ok (.iload_n 3, 1) := by decide +kernel
theorem d_D_takeOut_15 : decode b_D_takeOut 15 = .ok (.iaload, 1) := by decide +kernel
theorem d_D_takeOut_16 : decode b_D_takeOut 16 = .ok (.iload_n 1, 1) := by decide +kernel
theorem d_D_takeOut_17 : decode b_D_takeOut 17 = .ok (.if_icmp .eq 9, 3) := by decide +kernel
theorem d_D_takeOut_20 : decode b_D_takeOut 20 = .ok (.iinc 3 1, 3) := by decide +kernel
theorem d_D_takeOut_23 : decode b_D_takeOut 23 = .ok (.goto (-16), 3) := by decide +kernel
theorem d_D_takeOut_26 : decode b_D_takeOut 26 = .ok (.aload_n 2, 1) := by decide +kernel
theorem d_D_takeOut_27 : decode b_D_takeOut 27 = .ok (.iload_n 3, 1) := by decide +kernel
theorem d_D_takeOut_28 : decode b_D_takeOut 28 = .ok (.iconst 1, 1) := by decide +kernel
theorem d_D_takeOut_29 : decode b_D_takeOut 29 = .ok (.iadd, 1) := by decide +kernel
theorem d_D_takeOut_30 : decode b_D_takeOut 30 = .ok (.aload_n 2, 1) := by decide +kernel
theorem d_D_takeOut_31 : decode b_D_takeOut 31 = .ok (.iload_n 3, 1) := by decide +kernel
theorem d_D_takeOut_32 : decode b_D_takeOut 32 = .ok (.bipush 9, 2) := by decide +kernel
theorem d_D_takeOut_34 : decode b_D_takeOut 34 = .ok (.iload_n 3, 1) := by decide +kernel
theorem d_D_takeOut_35 : decode b_D_takeOut 35 = .ok (.isub, 1) := by decide +kernel
theorem d_D_takeOut_36 : decode b_D_takeOut 36 = .ok (.invokestatic 106, 3) := by decide +kernel
theorem d_D_takeOut_39 : decode b_D_takeOut 39 = .ok (.aload_n 0, 1) := by decide +kernel
theorem d_D_takeOut_40 : decode b_D_takeOut 40 = .ok (.iload_n 3, 1) := by decide +kernel
theorem d_D_takeOut_41 : decode b_D_takeOut 41 = .ok (.putfield 112, 3) := by decide +kernel
theorem d_D_takeOut_44 : decode b_D_takeOut 44 = .ok (.return_, 1) := by decide +kernel
theorem d_D_putIn_0 : decode b_D_putIn 0 = .ok (.aload_n 0, 1) := by decide +kernel
theorem d_D_putIn_1 : decode b_D_putIn 1 = .ok (.getfield 40, 3) := by decide +kernel
theorem d_D_putIn_4 : decode b_D_putIn 4 = .ok (.iload_n 2, 1) := by decide +kernel
theorem d_D_putIn_5 : decode b_D_putIn 5 = .ok (.aload_n 0, 1) := by decide +kernel
theorem d_D_putIn_6 : decode b_D_putIn 6 = .ok (.getfield 40, 3) := by decide +kernel
theorem d_D_putIn_9 : decode b_D_putIn 9 = .ok (.iload_n 2, 1) := by decide +kernel
theorem d_D_putIn_10 : decode b_D_putIn 10 = .ok (.iconst 1, 1) := by decide +kernel
theorem d_D_putIn_11 : decode b_D_putIn 11 = .ok (.iadd, 1) := by decide +kernel
theorem d_D_putIn_12 : decode b_D_putIn 12 = .ok (.bipush 9, 2) := by decide +kernel
theorem d_D_putIn_14 : decode b_D_putIn 14 = .ok (.iload_n 2, 1) := by decide +kernel
theorem d_D_putIn_15 : decode b_D_putIn 15 = .ok (.isub, 1) := by decide +kernel
theorem d_D_putIn_16 : decode b_D_putIn 16 = .ok (.invokestatic 106, 3) := by decide +kernel
theorem d_D_putIn_19 : decode b_D_putIn 19 = .ok (.aload_n 0, 1) := by decide +kernel
theorem d_D_putIn_20 : decode b_D_putIn 20 = .ok (.getfield 40, 3) := by decide +kernel
theorem d_D_putIn_23 : decode b_D_putIn 23 = .ok (.iload_n 2, 1) := by decide +kernel
theorem d_D_putIn_24 : decode b_D_putIn 24 = .ok (.iload_n 1, 1) := by decide +kernel
theorem d_D_putIn_25 : decode b_D_putIn 25 = .ok (.iastore, 1) := by decide +kernel
theorem d_D_putIn_26 : decode b_D_putIn 26 = .ok (.return_, 1) := by decide +kernel
theorem d_D_matesOf_0 : decode b_D_matesOf 0 = .ok (.aload_n 0, 1) := by decide +kernel
theorem d_D_matesOf_1 : decode b_D_matesOf 1 = .ok (.getfield 54, 3) := by decide +kernel
theorem d_D_matesOf_4 : decode b_D_matesOf 4 = .ok (.ifCond .ne 19, 3) := by decide +kernel
theorem d_D_matesOf_7 : decode b_D_matesOf 7 = .ok (.aload_n 0, 1) := by decide +kernel
theorem d_D_matesOf_8 : decode b_D_matesOf 8 = .ok (.getfield 9, 3) := by decide +kernel
theorem d_D_matesOf_11 : decode b_D_matesOf 11 = .ok (.aload_n 0, 1) := by decide +kernel
theorem d_D_matesOf_12 : decode b_D_matesOf 12 = .ok (.getfield 51, 3) := by decide +kernel
theorem d_D_matesOf_15 : decode b_D_matesOf 15 = .ok (.invokevirtual 115, 3) := by decide +kernel
theorem d_D_matesOf_18 : decode b_D_matesOf 18 = .ok (.aload_n 0, 1) := by decide +kernel
theorem d_D_matesOf_19 : decode b_D_matesOf 19 = .ok (.iconst 1, 1) := by decide +kernel
theorem d_D_matesOf_20 : decode b_D_matesOf 20 = .ok (.putfield 54, 3) := by decide +kernel
theorem d_D_matesOf_23 : decode b_D_matesOf 23 = .ok (.aload_n 0, 1) := by decide +kernel
theorem d_D_matesOf_24 : decode b_D_matesOf 24 = .ok (.getfield 51, 3) := by decide +kernel
theorem d_D_matesOf_27 : decode b_D_matesOf 27 = .ok (.iload_n 1, 1) := by decide +kernel
theorem d_D_matesOf_28 : decode b_D_matesOf 28 = .ok (.iaload, 1) := by decide +kernel
theorem d_D_matesOf_29 : decode b_D_matesOf 29 = .ok (.ireturn, 1) := by decide +kernel
theorem d_D_pass_0 : decode b_D_pass 0 = .ok (.aload_n 0, 1) := by decide +kernel
theorem d_D_pass_1 : decode b_D_pass 1 = .ok (.getfield 112, 3) := by decide +kernel
theorem d_D_pass_4 : decode b_D_pass 4 = .ok (.istore 4, 2) := by decide +kernel
theorem d_D_pass_6 : decode b_D_pass 6 = .ok (.iload 4, 2) := by decide +kernel
theorem d_D_pass_8 : decode b_D_pass 8 = .ok (.iload_n 2, 1) := by decide +kernel
theorem d_D_pass_9 : decode b_D_pass 9 = .ok (.if_icmp .ge 38, 3) := by decide +kernel
theorem d_D_pass_12 : decode b_D_pass 12 = .ok (.aload_n 0, 1) := by decide +kernel
theorem d_D_pass_13 : decode b_D_pass 13 = .ok (.getfield 40, 3) := by decide +kernel
theorem d_D_pass_16 : decode b_D_pass 16 = .ok (.iload 4, 2) := by decide +kernel
theorem d_D_pass_18 : decode b_D_pass 18 = .ok (.iaload, 1) := by decide +kernel
theorem d_D_pass_19 : decode b_D_pass 19 = .ok (.istore 5, 2) := by decide +kernel
theorem d_D_pass_21 : decode b_D_pass 21 = .ok (.iload_n 3, 1) := by decide +kernel
theorem d_D_pass_22 : decode b_D_pass 22 = .ok (.iload 5, 2) := by decide +kernel
theorem d_D_pass_24 : decode b_D_pass 24 = .ok (.ishr, 1) := by decide +kernel
theorem d_D_pass_25 : decode b_D_pass 25 = .ok (.iconst 1, 1) := by decide +kernel
theorem d_D_pass_26 : decode b_D_pass 26 = .ok (.iand, 1) := by decide +kernel
theorem d_D_pass_27 : decode b_D_pass 27 = .ok (.iconst 1, 1) := by decide +kernel
theorem d_D_pass_28 : decode b_D_pass 28 = .ok (.if_icmp .ne 13, 3) := by decide +kernel
theorem d_D_pass_31 : decode b_D_pass 31 = .ok (.aload_n 0, 1) := by decide +kernel
theorem d_D_pass_32 : decode b_D_pass 32 = .ok (.getfield 18, 3) := by decide +kernel
theorem d_D_pass_35 : decode b_D_pass 35 = .ok (.iload_n 1, 1) := by decide +kernel
theorem d_D_pass_36 : decode b_D_pass 36 = .ok (.iload 5, 2) := by decide +kernel
theorem d_D_pass_38 : decode b_D_pass 38 = .ok (.invokevirtual 121, 3) := by decide +kernel
theorem d_D_pass_41 : decode b_D_pass 41 = .ok (.iinc 4 1, 3) := by decide +kernel
theorem d_D_pass_44 : decode b_D_pass 44 = .ok (.goto (-38), 3) := by decide +kernel
theorem d_D_pass_47 : decode b_D_pass 47 = .ok (.aload_n 0, 1) := by decide +kernel
theorem d_D_pass_48 : decode b_D_pass 48 = .ok (.getfield 112, 3) := by decide +kernel
theorem d_D_pass_51 : decode b_D_pass 51 = .ok (.iconst 1, 1) := by decide +kernel
theorem d_D_pass_52 : decode b_D_pass 52 = .ok (.isub, 1) := by decide +kernel
theorem d_D_pass_53 : decode b_D_pass 53 = .ok (.istore 4, 2) := by decide +kernel
theorem d_D_pass_55 : decode b_D_pass 55 = .ok (.iload 4, 2) := by decide +kernel
theorem d_D_pass_57 : decode b_D_pass 57 = .ok (.iload_n 2, 1) := by decide +kernel
theorem d_D_pass_58 : decode b_D_pass 58 = .ok (.if_icmp .lt 38, 3) := by decide +kernel
theorem d_D_pass_61 : decode b_D_pass 61 = .ok (.aload_n 0, 1) := by decide +kernel
theorem d_D_pass_62 : decode b_D_pass 62 = .ok (.getfield 40, 3) := by decide +kernel
theorem d_D_pass_65 : decode b_D_pass 65 = .ok (.iload 4, 2) := by decide +kernel
theorem d_D_pass_67 : decode b_D_pass 67 = .ok (.iaload, 1) := by decide +kernel
theorem d_D_pass_68 : decode b_D_pass 68 = .ok (.istore 5, 2) := by decide +kernel
theorem d_D_pass_70 : decode b_D_pass 70 = .ok (.iload_n 3, 1) := by decide +kernel
theorem d_D_pass_71 : decode b_D_pass 71 = .ok (.iload 5, 2) := by decide +kernel
theorem d_D_pass_73 : decode b_D_pass 73 = .ok (.ishr, 1) := by decide +kernel
theorem d_D_pass_74 : decode b_D_pass 74 = .ok (.iconst 1, 1) := by decide +kernel
theorem d_D_pass_75 : decode b_D_pass 75 = .ok (.iand, 1) := by decide +kernel
theorem d_D_pass_76 : decode b_D_pass 76 = .ok (.iconst 1, 1) := by decide +kernel
theorem d_D_pass_77 : decode b_D_pass 77 = .ok (.if_icmp .ne 13, 3) := by decide +kernel
theorem d_D_pass_80 : decode b_D_pass 80 = .ok (.aload_n 0, 1) := by decide +kernel
theorem d_D_pass_81 : decode b_D_pass 81 = .ok (.getfield 18, 3) := by decide +kernel
theorem d_D_pass_84 : decode b_D_pass 84 = .ok (.iload 5, 2) := by decide +kernel
theorem d_D_pass_86 : decode b_D_pass 86 = .ok (.iload_n 1, 1) := by decide +kernel
theorem d_D_pass_87 : decode b_D_pass 87 = .ok (.invokevirtual 121, 3) := by decide +kernel
theorem d_D_pass_90 : decode b_D_pass 90 = .ok (.iinc 4 (-1), 3) := by decide +kernel
theorem d_D_pass_93 : decode b_D_pass 93 = .ok (.goto (-38), 3) := by decide +kernel
theorem d_D_pass_96 : decode b_D_pass 96 = .ok (.return_, 1) := by decide +kernel
theorem d_D_settle_0 : decode b_D_settle 0 = .ok (.aload_n 0, 1) := by decide +kernel
theorem d_D_settle_1 : decode b_D_settle 1 = .ok (.iload_n 1, 1) := by decide +kernel
theorem d_D_settle_2 : decode b_D_settle 2 = .ok (.invokevirtual 92, 3) := by decide +kernel
theorem d_D_settle_5 : decode b_D_settle 5 = .ok (.aload_n 0, 1) := by decide +kernel
theorem d_D_settle_6 : decode b_D_settle 6 = .ok (.iconst 0, 1) := by decide +kernel
theorem d_D_settle_7 : decode b_D_settle 7 = .ok (.putfield 124, 3) := by decide +kernel
theorem d_D_settle_10 : decode b_D_settle 10 = .ok (.aload_n 0, 1) := by decide +kernel
theorem d_D_settle_11 : decode b_D_settle 11 = .ok (.getfield 18, 3) := by decide +kernel
theorem d_D_settle_14 : decode b_D_settle 14 = .ok (.iload_n 1, 1) := by decide +kernel
theorem d_D_settle_15 : decode b_D_settle 15 = .ok (.invokevirtual 89, 3) := by decide +kernel
theorem d_D_settle_18 : decode b_D_settle 18 = .ok (.ifCond .le 11, 3) := by decide +kernel
theorem d_D_settle_21 : decode b_D_settle 21 = .ok (.aload_n 0, 1) := by decide +kernel
theorem d_D_settle_22 : decode b_D_settle 22 = .ok (.iload_n 1, 1) := by decide +kernel
theorem d_D_settle_23 : decode b_D_settle 23 = .ok (.invokevirtual 95, 3) := by decide +kernel
theorem d_D_settle_26 : decode b_D_settle 26 = .ok (.goto 4, 3) := by decide +kernel
theorem d_D_settle_29 : decode b_D_settle 29 = .ok (.iconst 0, 1) := by decide +kernel
theorem d_D_settle_30 : decode b_D_settle 30 = .ok (.istore_n 2, 1) := by decide +kernel
theorem d_D_settle_31 : decode b_D_settle 31 = .ok (.iload_n 2, 1) := by decide +kernel
theorem d_D_settle_32 : decode b_D_settle 32 = .ok (.ifCond .eq 44, 3) := by decide +kernel
theorem d_D_settle_35 : decode b_D_settle 35 = .ok (.aload_n 0, 1) := by decide +kernel
theorem d_D_settle_36 : decode b_D_settle 36 = .ok (.aload_n 0, 1) := by decide +kernel
theorem d_D_settle_37 : decode b_D_settle 37 = .ok (.getfield 112, 3) := by decide +kernel
theorem d_D_settle_40 : decode b_D_settle 40 = .ok (.putfield 124, 3) := by decide +kernel
theorem d_D_settle_43 : decode b_D_settle 43 = .ok (.aload_n 0, 1) := by decide +kernel
theorem d_D_settle_44 : decode b_D_settle 44 = .ok (.aload_n 0, 1) := by decide +kernel
theorem d_D_settle_45 : decode b_D_settle 45 = .ok (.getfield 18, 3) := by decide +kernel
theorem d_D_settle_48 : decode b_D_settle 48 = .ok (.invokevirtual 85, 3) := by decide +kernel
theorem d_D_settle_51 : decode b_D_settle 51 = .ok (.putfield 127, 3) := by decide +kernel
theorem d_D_settle_54 : decode b_D_settle 54 = .ok (.aload_n 0, 1) := by decide +kernel
theorem d_D_settle_55 : decode b_D_settle 55 = .ok (.iload_n 1, 1) := by decide +kernel
theorem d_D_settle_56 : decode b_D_settle 56 = .ok (.iload_n 2, 1) := by decide +kernel
theorem d_D_settle_57 : decode b_D_settle 57 = .ok (.invokevirtual 130, 3) := by decide +kernel
theorem d_D_settle_60 : decode b_D_settle 60 = .ok (.aload_n 0, 1) := by decide +kernel
theorem d_D_settle_61 : decode b_D_settle 61 = .ok (.iload_n 1, 1) := by decide +kernel
theorem d_D_settle_62 : decode b_D_settle 62 = .ok (.iload_n 2, 1) := by decide +kernel
theorem d_D_settle_63 : decode b_D_settle 63 = .ok (.invokevirtual 133, 3) := by decide +kernel
theorem d_D_settle_66 : decode b_D_settle 66 = .ok (.aload_n 0, 1) := by decide +kernel
theorem d_D_settle_67 : decode b_D_settle 67 = .ok (.iload_n 1, 1) := by decide +kernel
theorem d_D_settle_68 : decode b_D_settle 68 = .ok (.aload_n 0, 1) := by decide +kernel
theorem d_D_settle_69 : decode b_D_settle 69 = .ok (.getfield 124, 3) := by decide +kernel
theorem d_D_settle_72 : decode b_D_settle 72 = .ok (.iload_n 2, 1) := by decide +kernel
theorem d_D_settle_73 : decode b_D_settle 73 = .ok (.invokevirtual 98, 3) := by decide +kernel
theorem d_D_settle_76 : decode b_D_settle 76 = .ok (.aload_n 0, 1) := by decide +kernel
theorem d_D_settle_77 : decode b_D_settle 77 = .ok (.iload_n 1, 1) := by decide +kernel
theorem d_D_settle_78 : decode b_D_settle 78 = .ok (.aload_n 0, 1) := by decide +kernel
theorem d_D_settle_79 : decode b_D_settle 79 = .ok (.getfield 124, 3) := by decide +kernel
theorem d_D_settle_82 : decode b_D_settle 82 = .ok (.invokevirtual 102, 3) := by decide +kernel
theorem d_D_settle_85 : decode b_D_settle 85 = .ok (.aload_n 0, 1) := by decide +kernel
theorem d_D_settle_86 : decode b_D_settle 86 = .ok (.getfield 124, 3) := by decide +kernel
theorem d_D_settle_89 : decode b_D_settle 89 = .ok (.ireturn, 1) := by decide +kernel
theorem d_D_rise_0 : decode b_D_rise 0 = .ok (.iconst (-1), 1) := by decide +kernel
theorem d_D_rise_1 : decode b_D_rise 1 = .ok (.istore_n 3, 1) := by decide +kernel
theorem d_D_rise_2 : decode b_D_rise 2 = .ok (.iconst 0, 1) := by decide +kernel
theorem d_D_rise_3 : decode b_D_rise 3 = .ok (.istore 4, 2) := by decide +kernel
theorem d_D_rise_5 : decode b_D_rise 5 = .ok (.iconst 0, 1) := by decide +kernel
theorem d_D_rise_6 : decode b_D_rise 6 = .ok (.istore 5, 2) := by decide +kernel
theorem d_D_rise_8 : decode b_D_rise 8 = .ok (.iload 5, 2) := by decide +kernel
theorem d_D_rise_10 : decode b_D_rise 10 = .ok (.aload_n 0, 1) := by decide +kernel
theorem d_D_rise_11 : decode b_D_rise 11 = .ok (.getfield 112, 3) := by decide +kernel
theorem d_D_rise_14 : decode b_D_rise 14 = .ok (.if_icmp .ge 45, 3) := by decide +kernel
theorem d_D_rise_17 : decode b_D_rise 17 = .ok (.aload_n 0, 1) := by decide +kernel
theorem d_D_rise_18 : decode b_D_rise 18 = .ok (.getfield 40, 3) := by decide +kernel
theorem d_D_rise_21 : decode b_D_rise 21 = .ok (.iload 5, 2) := by decide +kernel
theorem d_D_rise_23 : decode b_D_rise 23 = .ok (.iaload, 1) := by decide +kernel
theorem d_D_rise_24 : decode b_D_rise 24 = .ok (.istore 6, 2) := by decide +kernel
theorem d_D_rise_26 : decode b_D_rise 26 = .ok (.iload_n 2, 1) := by decide +kernel
theorem d_D_rise_27 : decode b_D_rise 27 = .ok (.iload 6, 2) := by decide +kernel
theorem d_D_rise_29 : decode b_D_rise 29 = .ok (.ishr, 1) := by decide +kernel
theorem d_D_rise_30 : decode b_D_rise 30 = .ok (.iconst 1, 1) := by decide +kernel
theorem d_D_rise_31 : decode b_D_rise 31 = .ok (.iand, 1) := by decide +kernel
theorem d_D_rise_32 : decode b_D_rise 32 = .ok (.iconst 1, 1) := by decide +kernel
theorem d_D_rise_33 : decode b_D_rise 33 = .ok (.if_icmp .ne 20, 3) := by decide +kernel
theorem d_D_rise_36 : decode b_D_rise 36 = .ok (.iload_n 3, 1) := by decide +kernel
theorem d_D_rise_37 : decode b_D_rise 37 = .ok (.aload_n 0, 1) := by decide +kernel
theorem d_D_rise_38 : decode b_D_rise 38 = .ok (.getfield 18, 3) := by decide +kernel
theorem d_D_rise_41 : decode b_D_rise 41 = .ok (.iload 6, 2) := by decide +kernel
theorem d_D_rise_43 : decode b_D_rise 43 = .ok (.invokevirtual 89, 3) := by decide +kernel
theorem d_D_rise_46 : decode b_D_rise 46 = .ok (.iconst 1, 1) := by decide +kernel
theorem d_D_rise_47 : decode b_D_rise 47 = .ok (.isub, 1) := by decide +kernel
theorem d_D_rise_48 : decode b_D_rise 48 = .ok (.iadd, 1) := by decide +kernel
theorem d_D_rise_49 : decode b_D_rise 49 = .ok (.istore_n 3, 1) := by decide +kernel
theorem d_D_rise_50 : decode b_D_rise 50 = .ok (.iinc 4 1, 3) := by decide +kernel
theorem d_D_rise_53 : decode b_D_rise 53 = .ok (.iinc 5 1, 3) := by decide +kernel
theorem d_D_rise_56 : decode b_D_rise 56 = .ok (.goto (-48), 3) := by decide +kernel
theorem d_D_rise_59 : decode b_D_rise 59 = .ok (.aload_n 0, 1) := by decide +kernel
theorem d_D_rise_60 : decode b_D_rise 60 = .ok (.getfield 127, 3) := by decide +kernel
theorem d_D_rise_63 : decode b_D_rise 63 = .ok (.istore 5, 2) := by decide +kernel
theorem d_D_rise_65 : decode b_D_rise 65 = .ok (.iload 4, 2) := by decide +kernel
theorem d_D_rise_67 : decode b_D_rise 67 = .ok (.ifCond .le 132, 3) := by decide +kernel
theorem d_D_rise_70 : decode b_D_rise 70 = .ok (.aload_n 0, 1) := by decide +kernel
theorem d_D_rise_71 : decode b_D_rise 71 = .ok (.getfield 36, 3) := by decide +kernel
theorem d_D_rise_74 : decode b_D_rise 74 = .ok (.iload_n 1, 1) := by decide +kernel
theorem d_D_rise_75 : decode b_D_rise 75 = .ok (.invokevirtual 136, 3) := by decide +kernel
theorem d_D_rise_78 : decode b_D_rise 78 = .ok (.aload_n 0, 1) := by decide +kernel
theorem d_D_rise_79 : decode b_D_rise 79 = .ok (.getfield 112, 3) := by decide +kernel
theorem d_D_rise_82 : decode b_D_rise 82 = .ok (.iconst 1, 1) := by decide +kernel
theorem d_D_rise_83 : decode b_D_rise 83 = .ok (.isub, 1) := by decide +kernel
theorem d_D_rise_84 : decode b_D_rise 84 = .ok (.istore 6, 2) := by decide +kernel
theorem d_D_rise_86 : decode b_D_rise 86 = .ok (.iload 4, 2) := by decide +kernel
theorem d_D_rise_88 : decode b_D_rise 88 = .ok (.ifCond .le 104, 3) := by decide +kernel
theorem d_D_rise_91 : decode b_D_rise 91 = .ok (.iload 6, 2) := by decide +kernel
theorem d_D_rise_93 : decode b_D_rise 93 = .ok (.ifCond .lt 99, 3) := by decide +kernel
theorem d_D_rise_96 : decode b_D_rise 96 = .ok (.iload 5, 2) := by decide +kernel
theorem d_D_rise_98 : decode b_D_rise 98 = .ok (.iload_n 3, 1) := by decide +kernel
theorem d_D_rise_99 : decode b_D_rise 99 = .ok (.isub, 1) := by decide +kernel
theorem d_D_rise_100 : decode b_D_rise 100 = .ok (.aload_n 0, 1) := by decide +kernel
theorem d_D_rise_101 : decode b_D_rise 101 = .ok (.getfield 36, 3) := by decide +kernel
theorem d_D_rise_104 : decode b_D_rise 104 = .ok (.invokevirtual 139, 3) := by decide +kernel
theorem d_D_rise_107 : decode b_D_rise 107 = .ok (.isub, 1) := by decide +kernel
theorem d_D_rise_108 : decode b_D_rise 108 = .ok (.aload_n 0, 1) := by decide +kernel
theorem d_D_rise_109 : decode b_D_rise 109 = .ok (.getfield 127, 3) := by decide +kernel
theorem d_D_rise_112 : decode b_D_rise 112 = .ok (.if_icmp .gt 80, 3) := by decide +kernel
theorem d_D_rise_115 : decode b_D_rise 115 = .ok (.aload_n 0, 1) := by decide +kernel
theorem d_D_rise_116 : decode b_D_rise 116 = .ok (.getfield 40, 3) := by decide +kernel
theorem d_D_rise_119 : decode b_D_rise 119 = .ok (.iload 6, 2) := by decide +kernel
theorem d_D_rise_121 : decode b_D_rise 121 = .ok (.iaload, 1) := by decide +kernel
theorem d_D_rise_122 : decode b_D_rise 122 = .ok (.istore 7, 2) := by decide +kernel
theorem d_D_rise_124 : decode b_D_rise 124 = .ok (.iload_n 2, 1) := by decide +kernel
theorem d_D_rise_125 : decode b_D_rise 125 = .ok (.iload 7, 2) := by decide +kernel
theorem d_D_rise_127 : decode b_D_rise 127 = .ok (.ishr, 1) := by decide +kernel
theorem d_D_rise_128 : decode b_D_rise 128 = .ok (.iconst 1, 1) := by decide +kernel
theorem d_D_rise_129 : decode b_D_rise 129 = .ok (.iand, 1) := by decide +kernel
theorem d_D_rise_130 : decode b_D_rise 130 = .ok (.iconst 1, 1) := by decide +kernel
theorem d_D_rise_131 : decode b_D_rise 131 = .ok (.if_icmp .ne 34, 3) := by decide +kernel
theorem d_D_rise_134 : decode b_D_rise 134 = .ok (.iload 5, 2) := by decide +kernel
theorem d_D_rise_136 : decode b_D_rise 136 = .ok (.aload_n 0, 1) := by decide +kernel
theorem d_D_rise_137 : decode b_D_rise 137 = .ok (.getfield 36, 3) := by decide +kernel
theorem d_D_rise_140 : decode b_D_rise 140 = .ok (.iload 7, 2) := by decide +kernel
theorem d_D_rise_142 : decode b_D_rise 142 = .ok (.invokevirtual 142, 3) := by decide +kernel
theorem d_D_rise_145 : decode b_D_rise 145 = .ok (.iadd, 1) := by decide +kernel
theorem d_D_rise_146 : decode b_D_rise 146 = .ok (.istore 5, 2) := by decide +kernel
theorem d_D_rise_148 : decode b_D_rise 148 = .ok (.iload_n 3, 1) := by decide +kernel
theorem d_D_rise_149 : decode b_D_rise 149 = .ok (.aload_n 0, 1) := by decide +kernel
theorem d_D_rise_150 : decode b_D_rise 150 = .ok (.getfield 18, 3) := by decide +kernel
theorem d_D_rise_153 : decode b_D_rise 153 = .ok (.iload 7, 2) := by decide +kernel
theorem d_D_rise_155 : decode b_D_rise 155 = .ok (.invokevirtual 89, 3) := by decide +kernel
theorem d_D_rise_158 : decode b_D_rise 158 = .ok (.iconst 1, 1) := by decide +kernel
theorem d_D_rise_159 : decode b_D_rise 159 = .ok (.isub, 1) := by decide +kernel
theorem d_D_rise_160 : decode b_D_rise 160 = .ok (.isub, 1) := by decide +kernel
theorem d_D_rise_161 : decode b_D_rise 161 = .ok (.istore_n 3, 1) := by decide +kernel
theorem d_D_rise_162 : decode b_D_rise 162 = .ok (.iinc 4 (-1), 3) := by decide +kernel
theorem d_D_rise_165 : decode b_D_rise 165 = .ok (.iload 5, 2) := by decide +kernel
theorem d_D_rise_167 : decode b_D_rise 167 = .ok (.aload_n 0, 1) := by decide +kernel
theorem d_D_rise_168 : decode b_D_rise 168 = .ok (.getfield 127, 3) := by decide +kernel
theorem d_D_rise_171 : decode b_D_rise 171 = .ok (.if_icmp .gt 15, 3) := by decide +kernel
theorem d_D_rise_174 : decode b_D_rise 174 = .ok (.aload_n 0, 1) := by decide +kernel
theorem d_D_rise_175 : decode b_D_rise 175 = .ok (.iload 5, 2) := by decide +kernel
theorem d_D_rise_177 : decode b_D_rise 177 = .ok (.putfield 127, 3) := by decide +kernel
theorem d_D_rise_180 : decode b_D_rise 180 = .ok (.aload_n 0, 1) := by decide +kernel
theorem d_D_rise_181 : decode b_D_rise 181 = .ok (.iload 6, 2) := by decide +kernel
theorem d_D_rise_183 : decode b_D_rise 183 = .ok (.putfield 124, 3) := by decide +kernel
theorem d_D_rise_186 : decode b_D_rise 186 = .ok (.iinc 6 (-1), 3) := by decide +kernel
theorem d_D_rise_189 : decode b_D_rise 189 = .ok (.goto (-103), 3) := by decide +kernel
theorem d_D_rise_192 : decode b_D_rise 192 = .ok (.aload_n 0, 1) := by decide +kernel
theorem d_D_rise_193 : decode b_D_rise 193 = .ok (.getfield 36, 3) := by decide +kernel
theorem d_D_rise_196 : decode b_D_rise 196 = .ok (.invokevirtual 145, 3) := by decide +kernel
theorem d_D_rise_199 : decode b_D_rise 199 = .ok (.iload 4, 2) := by decide +kernel
theorem d_D_rise_201 : decode b_D_rise 201 = .ok (.ifCond .ne 17, 3) := by decide +kernel
theorem d_D_rise_204 : decode b_D_rise 204 = .ok (.iload 5, 2) := by decide +kernel
theorem d_D_rise_206 : decode b_D_rise 206 = .ok (.aload_n 0, 1) := by decide +kernel
theorem d_D_rise_207 : decode b_D_rise 207 = .ok (.getfield 127, 3) := by decide +kernel
theorem d_D_rise_210 : decode b_D_rise 210 = .ok (.if_icmp .gt 8, 3) := by decide +kernel
theorem d_D_rise_213 : decode b_D_rise 213 = .ok (.aload_n 0, 1) := by decide +kernel
theorem d_D_rise_214 : decode b_D_rise 214 = .ok (.iconst 0, 1) := by decide +kernel
theorem d_D_rise_215 : decode b_D_rise 215 = .ok (.putfield 124, 3) := by decide +kernel
theorem d_D_rise_218 : decode b_D_rise 218 = .ok (.return_, 1) := by decide +kernel
theorem d_D_sink_0 : decode b_D_sink 0 = .ok (.iconst (-1), 1) := by decide +kernel
theorem d_D_sink_1 : decode b_D_sink 1 = .ok (.istore_n 3, 1) := by decide +kernel
theorem d_D_sink_2 : decode b_D_sink 2 = .ok (.iconst 0, 1) := by decide +kernel
theorem d_D_sink_3 : decode b_D_sink 3 = .ok (.istore 4, 2) := by decide +kernel
theorem d_D_sink_5 : decode b_D_sink 5 = .ok (.aload_n 0, 1) := by decide +kernel
theorem d_D_sink_6 : decode b_D_sink 6 = .ok (.getfield 112, 3) := by decide +kernel
theorem d_D_sink_9 : decode b_D_sink 9 = .ok (.istore 5, 2) := by decide +kernel
theorem d_D_sink_11 : decode b_D_sink 11 = .ok (.iload 5, 2) := by decide +kernel
theorem d_D_sink_13 : decode b_D_sink 13 = .ok (.bipush 9, 2) := by decide +kernel
theorem d_D_sink_15 : decode b_D_sink 15 = .ok (.if_icmp .ge 45, 3) := by decide +kernel
theorem d_D_sink_18 : decode b_D_sink 18 = .ok (.aload_n 0, 1) := by decide +kernel
theorem d_D_sink_19 : decode b_D_sink 19 = .ok (.getfield 40, 3) := by decide +kernel
theorem d_D_sink_22 : decode b_D_sink 22 = .ok (.iload 5, 2) := by decide +kernel
theorem d_D_sink_24 : decode b_D_sink 24 = .ok (.iaload, 1) := by decide +kernel
theorem d_D_sink_25 : decode b_D_sink 25 = .ok (.istore 6, 2) := by decide +kernel
theorem d_D_sink_27 : decode b_D_sink 27 = .ok (.iload_n 2, 1) := by decide +kernel
theorem d_D_sink_28 : decode b_D_sink 28 = .ok (.iload 6, 2) := by decide +kernel
theorem d_D_sink_30 : decode b_D_sink 30 = .ok (.ishr, 1) := by decide +kernel
theorem d_D_sink_31 : decode b_D_sink 31 = .ok (.iconst 1, 1) := by decide +kernel
theorem d_D_sink_32 : decode b_D_sink 32 = .ok (.iand, 1) := by decide +kernel
theorem d_D_sink_33 : decode b_D_sink 33 = .ok (.iconst 1, 1) := by decide +kernel
theorem d_D_sink_34 : decode b_D_sink 34 = .ok (.if_icmp .ne 20, 3) := by decide +kernel
theorem d_D_sink_37 : decode b_D_sink 37 = .ok (.iload_n 3, 1) := by decide +kernel
theorem d_D_sink_38 : decode b_D_sink 38 = .ok (.aload_n 0, 1) := by decide +kernel
theorem d_D_sink_39 : decode b_D_sink 39 = .ok (.getfield 18, 3) := by decide +kernel
theorem d_D_sink_42 : decode b_D_sink 42 = .ok (.iload 6, 2) := by decide +kernel
theorem d_D_sink_44 : decode b_D_sink 44 = .ok (.invokevirtual 89, 3) := by decide +kernel
theorem d_D_sink_47 : decode b_D_sink 47 = .ok (.iconst 2, 1) := by decide +kernel
theorem d_D_sink_48 : decode b_D_sink 48 = .ok (.idiv, 1) := by decide +kernel
theorem d_D_sink_49 : decode b_D_sink 49 = .ok (.iadd, 1) := by decide +kernel
theorem d_D_sink_50 : decode b_D_sink 50 = .ok (.istore_n 3, 1) := by decide +kernel
theorem d_D_sink_51 : decode b_D_sink 51 = .ok (.iinc 4 1, 3) := by decide +kernel
theorem d_D_sink_54 : decode b_D_sink 54 = .ok (.iinc 5 1, 3) := by decide +kernel
theorem d_D_sink_57 : decode b_D_sink 57 = .ok (.goto (-46), 3) := by decide +kernel
theorem d_D_sink_60 : decode b_D_sink 60 = .ok (.aload_n 0, 1) := by decide +kernel
theorem d_D_sink_61 : decode b_D_sink 61 = .ok (.getfield 18, 3) := by decide +kernel
theorem d_D_sink_64 : decode b_D_sink 64 = .ok (.invokevirtual 85, 3) := by decide +kernel
theorem d_D_sink_67 : decode b_D_sink 67 = .ok (.istore 5, 2) := by decide +kernel
theorem d_D_sink_69 : decode b_D_sink 69 = .ok (.iload 4, 2) := by decide +kernel
theorem d_D_sink_71 : decode b_D_sink 71 = .ok (.ifCond .eq 23, 3) := by decide +kernel
theorem d_D_sink_74 : decode b_D_sink 74 = .ok (.iload 5, 2) := by decide +kernel
theorem d_D_sink_76 : decode b_D_sink 76 = .ok (.iload_n 3, 1) := by decide +kernel
theorem d_D_sink_77 : decode b_D_sink 77 = .ok (.isub, 1) := by decide +kernel
theorem d_D_sink_78 : decode b_D_sink 78 = .ok (.aload_n 0, 1) := by decide +kernel
theorem d_D_sink_79 : decode b_D_sink 79 = .ok (.getfield 18, 3) := by decide +kernel
theorem d_D_sink_82 : decode b_D_sink 82 = .ok (.iload_n 1, 1) := by decide +kernel
theorem d_D_sink_83 : decode b_D_sink 83 = .ok (.invokevirtual 89, 3) := by decide +kernel
theorem d_D_sink_86 : decode b_D_sink 86 = .ok (.isub, 1) := by decide +kernel
theorem d_D_sink_87 : decode b_D_sink 87 = .ok (.aload_n 0, 1) := by decide +kernel
theorem d_D_sink_88 : decode b_D_sink 88 = .ok (.getfield 127, 3) := by decide +kernel
theorem d_D_sink_91 : decode b_D_sink 91 = .ok (.if_icmp .lt 4, 3) := by decide +kernel
theorem d_D_sink_94 : decode b_D_sink 94 = .ok (.return_, 1) := by decide +kernel
theorem d_D_sink_95 : decode b_D_sink 95 = .ok (.aload_n 0, 1) := by decide +kernel
theorem d_D_sink_96 : decode b_D_sink 96 = .ok (.getfield 36, 3) := by decide +kernel
theorem d_D_sink_99 : decode b_D_sink 99 = .ok (.iload_n 1, 1) := by decide +kernel
theorem d_D_sink_100 : decode b_D_sink 100 = .ok (.aload_n 0, 1) := by decide +kernel
theorem d_D_sink_101 : decode b_D_sink 101 = .ok (.getfield 40, 3) := by decide +kernel
theorem d_D_sink_104 : decode b_D_sink 104 = .ok (.aload_n 0, 1) := by decide +kernel
theorem d_D_sink_105 : decode b_D_sink 105 = .ok (.getfield 112, 3) := by decide +kernel
theorem d_D_sink_108 : decode b_D_sink 108 = .ok (.invokevirtual 148, 3) := by decide +kernel
theorem d_D_sink_111 : decode b_D_sink 111 = .ok (.aload_n 0, 1) := by decide +kernel
theorem d_D_sink_112 : decode b_D_sink 112 = .ok (.getfield 112, 3) := by decide +kernel
theorem d_D_sink_115 : decode b_D_sink 115 = .ok (.istore 6, 2) := by decide +kernel
theorem d_D_sink_117 : decode b_D_sink 117 = .ok (.iload 4, 2) := by decide +kernel
theorem d_D_sink_119 : decode b_D_sink 119 = .ok (.ifCond .le 109, 3) := by decide +kernel
theorem d_D_sink_122 : decode b_D_sink 122 = .ok (.iload 6, 2) := by decide +kernel
theorem d_D_sink_124 : decode b_D_sink 124 = .ok (.bipush 9, 2) := by decide +kernel
theorem d_D_sink_126 : decode b_D_sink 126 = .ok (.if_icmp .ge 102, 3) := by decide +kernel
theorem d_D_sink_129 : decode b_D_sink 129 = .ok (.iload 5, 2) := by decide +kernel
theorem d_D_sink_131 : decode b_D_sink 131 = .ok (.iload_n 3, 1) := by decide +kernel
theorem d_D_sink_132 : decode b_D_sink 132 = .ok (.isub, 1) := by decide +kernel
theorem d_D_sink_133 : decode b_D_sink 133 = .ok (.aload_n 0, 1) := by decide +kernel
theorem d_D_sink_134 : decode b_D_sink 134 = .ok (.getfield 36, 3) := by decide +kernel
theorem d_D_sink_137 : decode b_D_sink 137 = .ok (.invokevirtual 139, 3) := by decide +kernel
theorem d_D_sink_140 : decode b_D_sink 140 = .ok (.isub, 1) := by decide +kernel
theorem d_D_sink_141 : decode b_D_sink 141 = .ok (.aload_n 0, 1) := by decide +kernel
theorem d_D_sink_142 : decode b_D_sink 142 = .ok (.getfield 127, 3) := by decide +kernel
theorem d_D_sink_145 : decode b_D_sink 145 = .ok (.if_icmp .ge 83, 3) := by decide +kernel
theorem d_D_sink_148 : decode b_D_sink 148 = .ok (.aload_n 0, 1) := by decide +kernel
theorem d_D_sink_149 : decode b_D_sink 149 = .ok (.getfield 40, 3) := by decide +kernel
theorem d_D_sink_152 : decode b_D_sink 152 = .ok (.iload 6, 2) := by decide +kernel
theorem d_D_sink_154 : decode b_D_sink 154 = .ok (.iaload, 1) := by decide +kernel
theorem d_D_sink_155 : decode b_D_sink 155 = .ok (.istore 7, 2) := by decide +kernel
theorem d_D_sink_157 : decode b_D_sink 157 = .ok (.iload_n 2, 1) := by decide +kernel
theorem d_D_sink_158 : decode b_D_sink 158 = .ok (.iload 7, 2) := by decide +kernel
theorem d_D_sink_160 : decode b_D_sink 160 = .ok (.ishr, 1) := by decide +kernel
theorem d_D_sink_161 : decode b_D_sink 161 = .ok (.iconst 1, 1) := by decide +kernel
theorem d_D_sink_162 : decode b_D_sink 162 = .ok (.iand, 1) := by decide +kernel
theorem d_D_sink_163 : decode b_D_sink 163 = .ok (.iconst 1, 1) := by decide +kernel
theorem d_D_sink_164 : decode b_D_sink 164 = .ok (.if_icmp .ne 58, 3) := by decide +kernel
theorem d_D_sink_167 : decode b_D_sink 167 = .ok (.iload 5, 2) := by decide +kernel
theorem d_D_sink_169 : decode b_D_sink 169 = .ok (.aload_n 0, 1) := by decide +kernel
theorem d_D_sink_170 : decode b_D_sink 170 = .ok (.getfield 36, 3) := by decide +kernel
theorem d_D_sink_173 : decode b_D_sink 173 = .ok (.iload_n 1, 1) := by decide +kernel
theorem d_D_sink_174 : decode b_D_sink 174 = .ok (.iload 7, 2) := by decide +kernel
theorem d_D_sink_176 : decode b_D_sink 176 = .ok (.invokevirtual 152, 3) := by decide +kernel
theorem d_D_sink_179 : decode b_D_sink 179 = .ok (.iadd, 1) := by decide +kernel
theorem d_D_sink_180 : decode b_D_sink 180 = .ok (.istore 5, 2) := by decide +kernel
theorem d_D_sink_182 : decode b_D_sink 182 = .ok (.iload_n 3, 1) := by decide +kernel
theorem d_D_sink_183 : decode b_D_sink 183 = .ok (.aload_n 0, 1) := by decide +kernel
theorem d_D_sink_184 : decode b_D_sink 184 = .ok (.getfield 18, 3) := by decide +kernel
theorem d_D_sink_187 : decode b_D_sink 187 = .ok (.iload 7, 2) := by decide +kernel
theorem d_D_sink_189 : decode b_D_sink 189 = .ok (.invokevirtual 89, 3) := by decide +kernel
theorem d_D_sink_192 : decode b_D_sink 192 = .ok (.iconst 2, 1) := by decide +kernel
theorem d_D_sink_193 : decode b_D_sink 193 = .ok (.idiv, 1) := by decide +kernel
theorem d_D_sink_194 : decode b_D_sink 194 = .ok (.isub, 1) := by decide +kernel
theorem d_D_sink_195 : decode b_D_sink 195 = .ok (.istore_n 3, 1) := by decide +kernel
theorem d_D_sink_196 : decode b_D_sink 196 = .ok (.iinc 4 (-1), 3) := by decide +kernel
theorem d_D_sink_199 : decode b_D_sink 199 = .ok (.iload 5, 2) := by decide +kernel
theorem d_D_sink_201 : decode b_D_sink 201 = .ok (.aload_n 0, 1) := by decide +kernel
theorem d_D_sink_202 : decode b_D_sink 202 = .ok (.getfield 127, 3) := by decide +kernel
theorem d_D_sink_205 : decode b_D_sink 205 = .ok (.if_icmp .ge 17, 3) := by decide +kernel
theorem d_D_sink_208 : decode b_D_sink 208 = .ok (.aload_n 0, 1) := by decide +kernel
theorem d_D_sink_209 : decode b_D_sink 209 = .ok (.iload 5, 2) := by decide +kernel
theorem d_D_sink_211 : decode b_D_sink 211 = .ok (.putfield 127, 3) := by decide +kernel
theorem d_D_sink_214 : decode b_D_sink 214 = .ok (.aload_n 0, 1) := by decide +kernel
theorem d_D_sink_215 : decode b_D_sink 215 = .ok (.iload 6, 2) := by decide +kernel
theorem d_D_sink_217 : decode b_D_sink 217 = .ok (.iconst 1, 1) := by decide +kernel
theorem d_D_sink_218 : decode b_D_sink 218 = .ok (.iadd, 1) := by decide +kernel
theorem d_D_sink_219 : decode b_D_sink 219 = .ok (.putfield 124, 3) := by decide +kernel
theorem d_D_sink_222 : decode b_D_sink 222 = .ok (.iinc 6 1, 3) := by decide +kernel
theorem d_D_sink_225 : decode b_D_sink 225 = .ok (.goto (-108), 3) := by decide +kernel
theorem d_D_sink_228 : decode b_D_sink 228 = .ok (.aload_n 0, 1) := by decide +kernel
theorem d_D_sink_229 : decode b_D_sink 229 = .ok (.getfield 36, 3) := by decide +kernel
theorem d_D_sink_232 : decode b_D_sink 232 = .ok (.invokevirtual 145, 3) := by decide +kernel
theorem d_D_sink_235 : decode b_D_sink 235 = .ok (.return_, 1) := by decide +kernel
theorem d_D_takeTurns_0 : decode b_D_takeTurns 0 = .ok (.iconst 0, 1) := by decide +kernel
theorem d_D_takeTurns_1 : decode b_D_takeTurns 1 = .ok (.istore_n 1, 1) := by decide +kernel
theorem d_D_takeTurns_2 : decode b_D_takeTurns 2 = .ok (.iconst 0, 1) := by decide +kernel
theorem d_D_takeTurns_3 : decode b_D_takeTurns 3 = .ok (.istore_n 2, 1) := by decide +kernel
theorem d_D_takeTurns_4 : decode b_D_takeTurns 4 = .ok (.iload_n 2, 1) := by decide +kernel
theorem d_D_takeTurns_5 : decode b_D_takeTurns 5 = .ok (.bipush 10, 2) := by decide +kernel
theorem d_D_takeTurns_7 : decode b_D_takeTurns 7 = .ok (.if_icmp .ge 83, 3) := by decide +kernel
theorem d_D_takeTurns_10 : decode b_D_takeTurns 10 = .ok (.aload_n 0, 1) := by decide +kernel
theorem d_D_takeTurns_11 : decode b_D_takeTurns 11 = .ok (.getfield 18, 3) := by decide +kernel
theorem d_D_takeTurns_14 : decode b_D_takeTurns 14 = .ok (.iload_n 2, 1) := by decide +kernel
theorem d_D_takeTurns_15 : decode b_D_takeTurns 15 = .ok (.invokevirtual 89, 3) := by decide +kernel
theorem d_D_takeTurns_18 : decode b_D_takeTurns 18 = .ok (.istore_n 3, 1) := by decide +kernel
theorem d_D_takeTurns_19 : decode b_D_takeTurns 19 = .ok (.iload_n 3, 1) := by decide +kernel
theorem d_D_takeTurns_20 : decode b_D_takeTurns 20 = .ok (.ifCond .le 64, 3) := by decide +kernel
theorem d_D_takeTurns_23 : decode b_D_takeTurns 23 = .ok (.iload_n 1, 1) := by decide +kernel
theorem d_D_takeTurns_24 : decode b_D_takeTurns 24 = .ok (.istore 4, 2) := by decide +kernel
theorem d_D_takeTurns_26 : decode b_D_takeTurns 26 = .ok (.iload 4, 2) := by decide +kernel
theorem d_D_takeTurns_28 : decode b_D_takeTurns 28 = .ok (.ifCond .le 45, 3) := by decide +kernel
theorem d_D_takeTurns_31 : decode b_D_takeTurns 31 = .ok (.aload_n 0, 1) := by decide +kernel
theorem d_D_takeTurns_32 : decode b_D_takeTurns 32 = .ok (.getfield 18, 3) := by decide +kernel
theorem d_D_takeTurns_35 : decode b_D_takeTurns 35 = .ok (.aload_n 0, 1) := by decide +kernel
theorem d_D_takeTurns_36 : decode b_D_takeTurns 36 = .ok (.getfield 58, 3) := by decide +kernel
theorem d_D_takeTurns_39 : decode b_D_takeTurns 39 = .ok (.iload 4, 2) := by decide +kernel
theorem d_D_takeTurns_41 : decode b_D_takeTurns 41 = .ok (.iconst 1, 1) := by decide +kernel
theorem d_D_takeTurns_42 : decode b_D_takeTurns 42 = .ok (.isub, 1) := by decide +kernel
theorem d_D_takeTurns_43 : decode b_D_takeTurns 43 = .ok (.iaload, 1) := by decide +kernel
theorem d_D_takeTurns_44 : decode b_D_takeTurns 44 = .ok (.invokevirtual 89, 3) := by decide +kernel
theorem d_D_takeTurns_47 : decode b_D_takeTurns 47 = .ok (.iload_n 3, 1) := by decide +kernel
theorem d_D_takeTurns_48 : decode b_D_takeTurns 48 = .ok (.if_icmp .ge 25, 3) := by decide +kernel
theorem d_D_takeTurns_51 : decode b_D_takeTurns 51 = .ok (.aload_n 0, 1) := by decide +kernel
theorem d_D_takeTurns_52 : decode b_D_takeTurns 52 = .ok (.getfield 58, 3) := by decide +kernel
theorem d_D_takeTurns_55 : decode b_D_takeTurns 55 = .ok (.iload 4, 2) := by decide +kernel
theorem d_D_takeTurns_57 : decode b_D_takeTurns 57 = .ok (.aload_n 0, 1) := by decide +kernel
theorem d_D_takeTurns_58 : decode b_D_takeTurns 58 = .ok (.getfield 58, 3) := by decide +kernel
theorem d_D_takeTurns_61 : decode b_D_takeTurns 61 = .ok (.iload 4, 2) := by decide +kernel
theorem d_D_takeTurns_63 : decode b_D_takeTurns 63 = .ok (.iconst 1, 1) := by decide +kernel
theorem d_D_takeTurns_64 : decode b_D_takeTurns 64 = .ok (.isub, 1) := by decide +kernel
theorem d_D_takeTurns_65 : decode b_D_takeTurns 65 = .ok (.iaload, 1) := by decide +kernel
theorem d_D_takeTurns_66 : decode b_D_takeTurns 66 = .ok (.iastore, 1) := by decide +kernel
theorem d_D_takeTurns_67 : decode b_D_takeTurns 67 = .ok (.iinc 4 (-1), 3) := by decide +kernel
theorem d_D_takeTurns_70 : decode b_D_takeTurns 70 = .ok (.goto (-44), 3) := by decide +kernel
theorem d_D_takeTurns_73 : decode b_D_takeTurns 73 = .ok (.aload_n 0, 1) := by decide +kernel
theorem d_D_takeTurns_74 : decode b_D_takeTurns 74 = .ok (.getfield 58, 3) := by decide +kernel
theorem d_D_takeTurns_77 : decode b_D_takeTurns 77 = .ok (.iload 4, 2) := by decide +kernel
theorem d_D_takeTurns_79 : decode b_D_takeTurns 79 = .ok (.iload_n 2, 1) := by decide +kernel
theorem d_D_takeTurns_80 : decode b_D_takeTurns 80 = .ok (.iastore, 1) := by decide +kernel
theorem d_D_takeTurns_81 : decode b_D_takeTurns 81 = .ok (.iinc 1 1, 3) := by decide +kernel
theorem d_D_takeTurns_84 : decode b_D_takeTurns 84 = .ok (.iinc 2 1, 3) := by decide +kernel
theorem d_D_takeTurns_87 : decode b_D_takeTurns 87 = .ok (.goto (-83), 3) := by decide +kernel
theorem d_D_takeTurns_90 : decode b_D_takeTurns 90 = .ok (.iload_n 1, 1) := by decide +kernel
theorem d_D_takeTurns_91 : decode b_D_takeTurns 91 = .ok (.ireturn, 1) := by decide +kernel
theorem d_D_inputWithTurn_0 : decode b_D_inputWithTurn 0 = .ok (.aload_n 0, 1) := by decide +kernel
theorem d_D_inputWithTurn_1 : decode b_D_inputWithTurn 1 = .ok (.getfield 58, 3) := by decide +kernel
theorem d_D_inputWithTurn_4 : decode b_D_inputWithTurn 4 = .ok (.iload_n 1, 1) := by decide +kernel
theorem d_D_inputWithTurn_5 : decode b_D_inputWithTurn 5 = .ok (.iaload, 1) := by decide +kernel
theorem d_D_inputWithTurn_6 : decode b_D_inputWithTurn 6 = .ok (.ireturn, 1) := by decide +kernel
theorem d_D_settleUnused_0 : decode b_D_settleUnused 0 = .ok (.iconst 0, 1) := by decide +kernel
theorem d_D_settleUnused_1 : decode b_D_settleUnused 1 = .ok (.istore_n 1, 1) := by decide +kernel
theorem d_D_settleUnused_2 : decode b_D_settleUnused 2 = .ok (.bipush 9, 2) := by decide +kernel
theorem d_D_settleUnused_4 : decode b_D_settleUnused 4 = .ok (.istore_n 2, 1) := by decide +kernel
theorem d_D_settleUnused_5 : decode b_D_settleUnused 5 = .ok (.iload_n 2, 1) := by decide +kernel
theorem d_D_settleUnused_6 : decode b_D_settleUnused 6 = .ok (.ifCond .lt 30, 3) := by decide +kernel
theorem d_D_settleUnused_9 : decode b_D_settleUnused 9 = .ok (.aload_n 0, 1) := by decide +kernel
theorem d_D_settleUnused_10 : decode b_D_settleUnused 10 = .ok (.getfield 18, 3) := by decide +kernel
theorem d_D_settleUnused_13 : decode b_D_settleUnused 13 = .ok (.iload_n 2, 1) := by decide +kernel
theorem d_D_settleUnused_14 : decode b_D_settleUnused 14 = .ok (.invokevirtual 89, 3) := by decide +kernel
theorem d_D_settleUnused_17 : decode b_D_settleUnused 17 = .ok (.ifCond .ne 13, 3) := by decide +kernel
theorem d_D_settleUnused_20 : decode b_D_settleUnused 20 = .ok (.aload_n 0, 1) := by decide +kernel
theorem d_D_settleUnused_21 : decode b_D_settleUnused 21 = .ok (.getfield 58, 3) := by decide +kernel
theorem d_D_settleUnused_24 : decode b_D_settleUnused 24 = .ok (.iload_n 1, 1) := by decide +kernel
theorem d_D_settleUnused_25 : decode b_D_settleUnused 25 = .ok (.iload_n 2, 1) := by decide +kernel
theorem d_D_settleUnused_26 : decode b_D_settleUnused 26 = .ok (.iastore, 1) := by decide +kernel
theorem d_D_settleUnused_27 : decode b_D_settleUnused 27 = .ok (.iinc 1 1, 3) := by decide +kernel
theorem d_D_settleUnused_30 : decode b_D_settleUnused 30 = .ok (.iinc 2 (-1), 3) := by decide +kernel
theorem d_D_settleUnused_33 : decode b_D_settleUnused 33 = .ok (.goto (-28), 3) := by decide +kernel
theorem d_D_settleUnused_36 : decode b_D_settleUnused 36 = .ok (.iconst 0, 1) := by decide +kernel
theorem d_D_settleUnused_37 : decode b_D_settleUnused 37 = .ok (.istore_n 2, 1) := by decide +kernel
theorem d_D_settleUnused_38 : decode b_D_settleUnused 38 = .ok (.iload_n 2, 1) := by decide +kernel
theorem d_D_settleUnused_39 : decode b_D_settleUnused 39 = .ok (.bipush 10, 2) := by decide +kernel
theorem d_D_settleUnused_41 : decode b_D_settleUnused 41 = .ok (.if_icmp .ge 40, 3) := by decide +kernel
theorem d_D_settleUnused_44 : decode b_D_settleUnused 44 = .ok (.aload_n 0, 1) := by decide +kernel
theorem d_D_settleUnused_45 : decode b_D_settleUnused 45 = .ok (.getfield 18, 3) := by decide +kernel
theorem d_D_settleUnused_48 : decode b_D_settleUnused 48 = .ok (.aload_n 0, 1) := by decide +kernel
theorem d_D_settleUnused_49 : decode b_D_settleUnused 49 = .ok (.getfield 40, 3) := by decide +kernel
theorem d_D_settleUnused_52 : decode b_D_settleUnused 52 = .ok (.iload_n 2, 1) := by decide +kernel
theorem d_D_settleUnused_53 : decode b_D_settleUnused 53 = .ok (.iaload, 1) := by decide +kernel
theorem d_D_settleUnused_54 : decode b_D_settleUnused 54 = .ok (.invokevirtual 89, 3) := by decide +kernel
theorem d_D_settleUnused_57 : decode b_D_settleUnused 57 = .ok (.ifCond .le 18, 3) := by decide +kernel
theorem d_D_settleUnused_60 : decode b_D_settleUnused 60 = .ok (.aload_n 0, 1) := by decide +kernel
theorem d_D_settleUnused_61 : decode b_D_settleUnused 61 = .ok (.getfield 58, 3) := by decide +kernel
theorem d_D_settleUnused_64 : decode b_D_settleUnused 64 = .ok (.iload_n 1, 1) := by decide +kernel
theorem d_D_settleUnused_65 : decode b_D_settleUnused 65 = .ok (.aload_n 0, 1) := by decide +kernel
theorem d_D_settleUnused_66 : decode b_D_settleUnused 66 = .ok (.getfield 40, 3) := by decide +kernel
theorem d_D_settleUnused_69 : decode b_D_settleUnused 69 = .ok (.iload_n 2, 1) := by decide +kernel
theorem d_D_settleUnused_70 : decode b_D_settleUnused 70 = .ok (.iaload, 1) := by decide +kernel
theorem d_D_settleUnused_71 : decode b_D_settleUnused 71 = .ok (.iastore, 1) := by decide +kernel
theorem d_D_settleUnused_72 : decode b_D_settleUnused 72 = .ok (.iinc 1 1, 3) := by decide +kernel
theorem d_D_settleUnused_75 : decode b_D_settleUnused 75 = .ok (.iinc 2 1, 3) := by decide +kernel
theorem d_D_settleUnused_78 : decode b_D_settleUnused 78 = .ok (.goto (-40), 3) := by decide +kernel
theorem d_D_settleUnused_81 : decode b_D_settleUnused 81 = .ok (.aload_n 0, 1) := by decide +kernel
theorem d_D_settleUnused_82 : decode b_D_settleUnused 82 = .ok (.getfield 58, 3) := by decide +kernel
theorem d_D_settleUnused_85 : decode b_D_settleUnused 85 = .ok (.iconst 0, 1) := by decide +kernel
theorem d_D_settleUnused_86 : decode b_D_settleUnused 86 = .ok (.aload_n 0, 1) := by decide +kernel
theorem d_D_settleUnused_87 : decode b_D_settleUnused 87 = .ok (.getfield 40, 3) := by decide +kernel
theorem d_D_settleUnused_90 : decode b_D_settleUnused 90 = .ok (.iconst 0, 1) := by decide +kernel
theorem d_D_settleUnused_91 : decode b_D_settleUnused 91 = .ok (.bipush 10, 2) := by decide +kernel
theorem d_D_settleUnused_93 : decode b_D_settleUnused 93 = .ok (.invokestatic 106, 3) := by decide +kernel
theorem d_D_settleUnused_96 : decode b_D_settleUnused 96 = .ok (.return_, 1) := by decide +kernel
