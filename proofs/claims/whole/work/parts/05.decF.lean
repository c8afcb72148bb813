theorem d_F_init_0 : decode b_F_init 0 = .ok (.aload_n 0, 1) := by decide +kernel
theorem d_F_init_1 : decode b_F_init 1 = .ok (.invokespecial 5, 3) := by decide +kernel
theorem d_F_init_4 : decode b_F_init 4 = .ok (.aload_n 0, 1) := by decide +kernel
theorem d_F_init_5 : decode b_F_init 5 = .ok (.bipush 24, 2) := by decide +kernel
theorem d_F_init_7 : decode b_F_init 7 = .ok (.bipush 16, 2) := by decide +kernel
theorem d_F_init_9 : decode b_F_init 9 = .ok (.multianewarray 11 2, 4) := by decide +kernel
theorem d_F_init_13 : decode b_F_init 13 = .ok (.putfield 13, 3) := by decide +kernel
theorem d_F_init_16 : decode b_F_init 16 = .ok (.aload_n 0, 1) := by decide +kernel
theorem d_F_init_17 : decode b_F_init 17 = .ok (.bipush 24, 2) := by decide +kernel
theorem d_F_init_19 : decode b_F_init 19 = .ok (.newarray .int, 2) := by decide +kernel
theorem d_F_init_21 : decode b_F_init 21 = .ok (.putfield 16, 3) := by decide +kernel
theorem d_F_init_24 : decode b_F_init 24 = .ok (.aload_n 0, 1) := by decide +kernel
theorem d_F_init_25 : decode b_F_init 25 = .ok (.ldc 20, 2) := by decide +kernel
theorem d_F_init_27 : decode b_F_init 27 = .ok (.putfield 21, 3) := by decide +kernel
theorem d_F_init_30 : decode b_F_init 30 = .ok (.aload_n 0, 1) := by decide +kernel
theorem d_F_init_31 : decode b_F_init 31 = .ok (.iconst 0, 1) := by decide +kernel
theorem d_F_init_32 : decode b_F_init 32 = .ok (.putfield 25, 3) := by decide +kernel
theorem d_F_init_35 : decode b_F_init 35 = .ok (.aload_n 0, 1) := by decide +kernel
theorem d_F_init_36 : decode b_F_init 36 = .ok (.bipush 16, 2) := by decide +kernel
theorem d_F_init_38 : decode b_F_init 38 = .ok (.newarray .long, 2) := by decide +kernel
theorem d_F_init_40 : decode b_F_init 40 = .ok (.putfield 28, 3) := by decide +kernel
theorem d_F_init_43 : decode b_F_init 43 = .ok (.return_, 1) := by decide +kernel
theorem d_F_keptWords_0 : decode b_F_keptWords 0 = .ok (.aload_n 0, 1) := by decide +kernel
theorem d_F_keptWords_1 : decode b_F_keptWords 1 = .ok (.getfield 16, 3) := by decide +kernel
theorem d_F_keptWords_4 : decode b_F_keptWords 4 = .ok (.iload_n 1, 1) := by decide +kernel
theorem d_F_keptWords_5 : decode b_F_keptWords 5 = .ok (.iaload, 1) := by decide +kernel
theorem d_F_keptWords_6 : decode b_F_keptWords 6 = .ok (.bipush 6, 2) := by decide +kernel
theorem d_F_keptWords_8 : decode b_F_keptWords 8 = .ok (.ishr, 1) := by decide +kernel
theorem d_F_keptWords_9 : decode b_F_keptWords 9 = .ok (.ireturn, 1) := by decide +kernel
theorem d_F_leftOut_0 : decode b_F_leftOut 0 = .ok (.bipush 15, 2) := by decide +kernel
theorem d_F_leftOut_2 : decode b_F_leftOut 2 = .ok (.iload_n 0, 1) := by decide +kernel
theorem d_F_leftOut_3 : decode b_F_leftOut 3 = .ok (.iconst (-1), 1) := by decide +kernel
theorem d_F_leftOut_4 : decode b_F_leftOut 4 = .ok (.ixor, 1) := by decide +kernel
theorem d_F_leftOut_5 : decode b_F_leftOut 5 = .ok (.iand, 1) := by decide +kernel
theorem d_F_leftOut_6 : decode b_F_leftOut 6 = .ok (.ireturn, 1) := by decide +kernel
theorem d_F_word_0 : decode b_F_word 0 = .ok (.aload_n 0, 1) := by decide +kernel
theorem d_F_word_1 : decode b_F_word 1 = .ok (.getfield 13, 3) := by decide +kernel
theorem d_F_word_4 : decode b_F_word 4 = .ok (.iload_n 1, 1) := by decide +kernel
theorem d_F_word_5 : decode b_F_word 5 = .ok (.aaload, 1) := by decide +kernel
theorem d_F_word_6 : decode b_F_word 6 = .ok (.iload_n 2, 1) := by decide +kernel
theorem d_F_word_7 : decode b_F_word 7 = .ok (.aload_n 0, 1) := by decide +kernel
theorem d_F_word_8 : decode b_F_word 8 = .ok (.iload_n 1, 1) := by decide +kernel
theorem d_F_word_9 : decode b_F_word 9 = .ok (.invokevirtual 32, 3) := by decide +kernel
theorem d_F_word_12 : decode b_F_word 12 = .ok (.iand, 1) := by decide +kernel
theorem d_F_word_13 : decode b_F_word 13 = .ok (.laload, 1) := by decide +kernel
theorem d_F_word_14 : decode b_F_word 14 = .ok (.lreturn, 1) := by decide +kernel
theorem d_F_bit_0 : decode b_F_bit 0 = .ok (.aload_n 0, 1) := by decide +kernel
theorem d_F_bit_1 : decode b_F_bit 1 = .ok (.getfield 13, 3) := by decide +kernel
theorem d_F_bit_4 : decode b_F_bit 4 = .ok (.iload_n 1, 1) := by decide +kernel
theorem d_F_bit_5 : decode b_F_bit 5 = .ok (.aaload, 1) := by decide +kernel
theorem d_F_bit_6 : decode b_F_bit 6 = .ok (.iload_n 2, 1) := by decide +kernel
theorem d_F_bit_7 : decode b_F_bit 7 = .ok (.bipush 6, 2) := by decide +kernel
theorem d_F_bit_9 : decode b_F_bit 9 = .ok (.ishr, 1) := by decide +kernel
theorem d_F_bit_10 : decode b_F_bit 10 = .ok (.aload_n 0, 1) := by decide +kernel
theorem d_F_bit_11 : decode b_F_bit 11 = .ok (.iload_n 1, 1) := by decide +kernel
theorem d_F_bit_12 : decode b_F_bit 12 = .ok (.invokevirtual 32, 3) := by decide +kernel
theorem d_F_bit_15 : decode b_F_bit 15 = .ok (.iand, 1) := by decide +kernel
theorem d_F_bit_16 : decode b_F_bit 16 = .ok (.laload, 1) := by decide +kernel
theorem d_F_bit_17 : decode b_F_bit 17 = .ok (.iload_n 2, 1) := by decide +kernel
theorem d_F_bit_18 : decode b_F_bit 18 = .ok (.lushr, 1) := by decide +kernel
theorem d_F_bit_19 : decode b_F_bit 19 = .ok (.l2i, 1) := by decide +kernel
theorem d_F_bit_20 : decode b_F_bit 20 = .ok (.iconst 1, 1) := by decide +kernel
theorem d_F_bit_21 : decode b_F_bit 21 = .ok (.iand, 1) := by decide +kernel
theorem d_F_bit_22 : decode b_F_bit 22 = .ok (.ireturn, 1) := by decide +kernel
theorem d_F_putSpare_0 : decode b_F_putSpare 0 = .ok (.aload_n 0, 1) := by decide +kernel
theorem d_F_putSpare_1 : decode b_F_putSpare 1 = .ok (.getfield 13, 3) := by decide +kernel
theorem d_F_putSpare_4 : decode b_F_putSpare 4 = .ok (.iload_n 1, 1) := by decide +kernel
theorem d_F_putSpare_5 : decode b_F_putSpare 5 = .ok (.aaload, 1) := by decide +kernel
theorem d_F_putSpare_6 : decode b_F_putSpare 6 = .ok (.astore_n 3, 1) := by decide +kernel
theorem d_F_putSpare_7 : decode b_F_putSpare 7 = .ok (.aload_n 0, 1) := by decide +kernel
theorem d_F_putSpare_8 : decode b_F_putSpare 8 = .ok (.getfield 13, 3) := by decide +kernel
theorem d_F_putSpare_11 : decode b_F_putSpare 11 = .ok (.iload_n 1, 1) := by decide +kernel
theorem d_F_putSpare_12 : decode b_F_putSpare 12 = .ok (.aload_n 0, 1) := by decide +kernel
theorem d_F_putSpare_13 : decode b_F_putSpare 13 = .ok (.getfield 28, 3) := by decide +kernel
theorem d_F_putSpare_16 : decode b_F_putSpare 16 = .ok (.aastore, 1) := by decide +kernel
theorem d_F_putSpare_17 : decode b_F_putSpare 17 = .ok (.aload_n 0, 1) := by decide +kernel
theorem d_F_putSpare_18 : decode b_F_putSpare 18 = .ok (.aload_n 3, 1) := by decide +kernel
theorem d_F_putSpare_19 : decode b_F_putSpare 19 = .ok (.putfield 28, 3) := by decide +kernel
theorem d_F_putSpare_22 : decode b_F_putSpare 22 = .ok (.aload_n 0, 1) := by decide +kernel
theorem d_F_putSpare_23 : decode b_F_putSpare 23 = .ok (.getfield 16, 3) := by decide +kernel
theorem d_F_putSpare_26 : decode b_F_putSpare 26 = .ok (.iload_n 1, 1) := by decide +kernel
theorem d_F_putSpare_27 : decode b_F_putSpare 27 = .ok (.iload_n 2, 1) := by decide +kernel
theorem d_F_putSpare_28 : decode b_F_putSpare 28 = .ok (.iastore, 1) := by decide +kernel
theorem d_F_putSpare_29 : decode b_F_putSpare 29 = .ok (.aload_n 0, 1) := by decide +kernel
theorem d_F_putSpare_30 : decode b_F_putSpare 30 = .ok (.dup, 1) := by decide +kernel
theorem d_F_putSpare_31 : decode b_F_putSpare 31 = .ok (.getfield 21, 3) := by decide +kernel
theorem d_F_putSpare_34 : decode b_F_putSpare 34 = .ok (.iconst 1, 1) := by decide +kernel
theorem d_F_putSpare_35 : decode b_F_putSpare 35 = .ok (.iload_n 1, 1) := by decide +kernel
theorem d_F_putSpare_36 : decode b_F_putSpare 36 = .ok (.ishl, 1) := by decide +kernel
theorem d_F_putSpare_37 : decode b_F_putSpare 37 = .ok (.iconst (-1), 1) := by decide +kernel
theorem d_F_putSpare_38 : decode b_F_putSpare 38 = .ok (.ixor, 1) := by decide +kernel
theorem d_F_putSpare_39 : decode b_F_putSpare 39 = .ok (.iand, 1) := by decide +kernel
theorem d_F_putSpare_40 : decode b_F_putSpare 40 = .ok (.putfield 21, 3) := by decide +kernel
theorem d_F_putSpare_43 : decode b_F_putSpare 43 = .ok (.return_, 1) := by decide +kernel
theorem d_F_beSure_0 : decode b_F_beSure 0 = .ok (.aload_n 0, 1) := by decide +kernel
theorem d_F_beSure_1 : decode b_F_beSure 1 = .ok (.getfield 16, 3) := by decide +kernel
theorem d_F_beSure_4 : decode b_F_beSure 4 = .ok (.iload_n 1, 1) := by decide +kernel
theorem d_F_beSure_5 : decode b_F_beSure 5 = .ok (.iload_n 2, 1) := by decide +kernel
theorem d_F_beSure_6 : decode b_F_beSure 6 = .ok (.iastore, 1) := by decide +kernel
theorem d_F_beSure_7 : decode b_F_beSure 7 = .ok (.aload_n 0, 1) := by decide +kernel
theorem d_F_beSure_8 : decode b_F_beSure 8 = .ok (.dup, 1) := by decide +kernel
theorem d_F_beSure_9 : decode b_F_beSure 9 = .ok (.getfield 21, 3) := by decide +kernel
theorem d_F_beSure_12 : decode b_F_beSure 12 = .ok (.iconst 1, 1) := by decide +kernel
theorem d_F_beSure_13 : decode b_F_beSure 13 = .ok (.iload_n 1, 1) := by decide +kernel
theorem d_F_beSure_14 : decode b_F_beSure 14 = .ok (.ishl, 1) := by decide +kernel
theorem d_F_beSure_15 : decode b_F_beSure 15 = .ok (.ior, 1) := by decide +kernel
theorem d_F_beSure_16 : decode b_F_beSure 16 = .ok (.putfield 21, 3) := by decide +kernel
theorem d_F_beSure_19 : decode b_F_beSure 19 = .ok (.aload_n 0, 1) := by decide +kernel
theorem d_F_beSure_20 : decode b_F_beSure 20 = .ok (.iload_n 2, 1) := by decide +kernel
theorem d_F_beSure_21 : decode b_F_beSure 21 = .ok (.iload_n 2, 1) := by decide +kernel
theorem d_F_beSure_22 : decode b_F_beSure 22 = .ok (.iconst 1, 1) := by decide +kernel
theorem d_F_beSure_23 : decode b_F_beSure 23 = .ok (.isub, 1) := by decide +kernel
theorem d_F_beSure_24 : decode b_F_beSure 24 = .ok (.iand, 1) := by decide +kernel
theorem d_F_beSure_25 : decode b_F_beSure 25 = .ok (.ifCond .ne 16, 3) := by decide +kernel
theorem d_F_beSure_28 : decode b_F_beSure 28 = .ok (.aload_n 0, 1) := by decide +kernel
theorem d_F_beSure_29 : decode b_F_beSure 29 = .ok (.getfield 25, 3) := by decide +kernel
theorem d_F_beSure_32 : decode b_F_beSure 32 = .ok (.iconst 1, 1) := by decide +kernel
theorem d_F_beSure_33 : decode b_F_beSure 33 = .ok (.iload_n 1, 1) := by decide +kernel
theorem d_F_beSure_34 : decode b_F_beSure 34 = .ok (.ishl, 1) := by decide +kernel
theorem d_F_beSure_35 : decode b_F_beSure 35 = .ok (.iconst (-1), 1) := by decide +kernel
theorem d_F_beSure_36 : decode b_F_beSure 36 = .ok (.ixor, 1) := by decide +kernel
theorem d_F_beSure_37 : decode b_F_beSure 37 = .ok (.iand, 1) := by decide +kernel
theorem d_F_beSure_38 : decode b_F_beSure 38 = .ok (.goto 11, 3) := by decide +kernel
theorem d_F_beSure_41 : decode b_F_beSure 41 = .ok (.aload_n 0, 1) := by decide +kernel
theorem d_F_beSure_42 : decode b_F_beSure 42 = .ok (.getfield 25, 3) := by decide +kernel
theorem d_F_beSure_45 : decode b_F_beSure 45 = .ok (.iconst 1, 1) := by decide +kernel
theorem d_F_beSure_46 : decode b_F_beSure 46 = .ok (.iload_n 1, 1) := by decide +kernel
theorem d_F_beSure_47 : decode b_F_beSure 47 = .ok (.ishl, 1) := by decide +kernel
theorem d_F_beSure_48 : decode b_F_beSure 48 = .ok (.ior, 1) := by decide +kernel
theorem d_F_beSure_49 : decode b_F_beSure 49 = .ok (.putfield 25, 3) := by decide +kernel
theorem d_F_beSure_52 : decode b_F_beSure 52 = .ok (.return_, 1) := by decide +kernel
theorem d_F_setAll_0 : decode b_F_setAll 0 = .ok (.aload_n 0, 1) := by decide +kernel
theorem d_F_setAll_1 : decode b_F_setAll 1 = .ok (.getfield 13, 3) := by decide +kernel
theorem d_F_setAll_4 : decode b_F_setAll 4 = .ok (.iload_n 1, 1) := by decide +kernel
theorem d_F_setAll_5 : decode b_F_setAll 5 = .ok (.aaload, 1) := by decide +kernel
theorem d_F_setAll_6 : decode b_F_setAll 6 = .ok (.iconst 0, 1) := by decide +kernel
theorem d_F_setAll_7 : decode b_F_setAll 7 = .ok (.iload_n 2, 1) := by decide +kernel
theorem d_F_setAll_8 : decode b_F_setAll 8 = .ok (.iconst 1, 1) := by decide +kernel
theorem d_F_setAll_9 : decode b_F_setAll 9 = .ok (.if_icmp .ne 9, 3) := by decide +kernel
theorem d_F_setAll_12 : decode b_F_setAll 12 = .ok (.ldc2_w 36, 3) := by decide +kernel
theorem d_F_setAll_15 : decode b_F_setAll 15 = .ok (.goto 4, 3) := by decide +kernel
theorem d_F_setAll_18 : decode b_F_setAll 18 = .ok (.lconst 0, 1) := by decide +kernel
theorem d_F_setAll_19 : decode b_F_setAll 19 = .ok (.lastore, 1) := by decide +kernel
theorem d_F_setAll_20 : decode b_F_setAll 20 = .ok (.aload_n 0, 1) := by decide +kernel
theorem d_F_setAll_21 : decode b_F_setAll 21 = .ok (.iload_n 1, 1) := by decide +kernel
theorem d_F_setAll_22 : decode b_F_setAll 22 = .ok (.iconst 0, 1) := by decide +kernel
theorem d_F_setAll_23 : decode b_F_setAll 23 = .ok (.invokevirtual 38, 3) := by decide +kernel
theorem d_F_setAll_26 : decode b_F_setAll 26 = .ok (.return_, 1) := by decide +kernel
theorem d_F_setInput_0 : decode b_F_setInput 0 = .ok (.aload_n 0, 1) := by decide +kernel
theorem d_F_setInput_1 : decode b_F_setInput 1 = .ok (.getfield 13, 3) := by decide +kernel
theorem d_F_setInput_4 : decode b_F_setInput 4 = .ok (.iload_n 1, 1) := by decide +kernel
theorem d_F_setInput_5 : decode b_F_setInput 5 = .ok (.aaload, 1) := by decide +kernel
theorem d_F_setInput_6 : decode b_F_setInput 6 = .ok (.astore_n 3, 1) := by decide +kernel
theorem d_F_setInput_7 : decode b_F_setInput 7 = .ok (.iload_n 2, 1) := by decide +kernel
theorem d_F_setInput_8 : decode b_F_setInput 8 = .ok (.bipush 6, 2) := by decide +kernel
theorem d_F_setInput_10 : decode b_F_setInput 10 = .ok (.if_icmp .ge 14, 3) := by decide +kernel
theorem d_F_setInput_13 : decode b_F_setInput 13 = .ok (.aload_n 3, 1) := by decide +kernel
theorem d_F_setInput_14 : decode b_F_setInput 14 = .ok (.iconst 0, 1) := by decide +kernel
theorem d_F_setInput_15 : decode b_F_setInput 15 = .ok (.getstatic 42, 3) := by decide +kernel
theorem d_F_setInput_18 : decode b_F_setInput 18 = .ok (.iload_n 2, 1) := by decide +kernel
theorem d_F_setInput_19 : decode b_F_setInput 19 = .ok (.laload, 1) := by decide +kernel
theorem d_F_setInput_20 : decode b_F_setInput 20 = .ok (.lastore, 1) := by decide +kernel
theorem d_F_setInput_21 : decode b_F_setInput 21 = .ok (.goto 18, 3) := by decide +kernel
theorem d_F_setInput_24 : decode b_F_setInput 24 = .ok (.aload_n 3, 1) := by decide +kernel
theorem d_F_setInput_25 : decode b_F_setInput 25 = .ok (.iconst 0, 1) := by decide +kernel
theorem d_F_setInput_26 : decode b_F_setInput 26 = .ok (.lconst 0, 1) := by decide +kernel
theorem d_F_setInput_27 : decode b_F_setInput 27 = .ok (.lastore, 1) := by decide +kernel
theorem d_F_setInput_28 : decode b_F_setInput 28 = .ok (.aload_n 3, 1) := by decide +kernel
theorem d_F_setInput_29 : decode b_F_setInput 29 = .ok (.iconst 1, 1) := by decide +kernel
theorem d_F_setInput_30 : decode b_F_setInput 30 = .ok (.iload_n 2, 1) := by decide +kernel
theorem d_F_setInput_31 : decode b_F_setInput 31 = .ok (.bipush 6, 2) := by decide +kernel
theorem d_F_setInput_33 : decode b_F_setInput 33 = .ok (.isub, 1) := by decide +kernel
theorem d_F_setInput_34 : decode b_F_setInput 34 = .ok (.ishl, 1) := by decide +kernel
theorem d_F_setInput_35 : decode b_F_setInput 35 = .ok (.ldc2_w 36, 3) := by decide +kernel
theorem d_F_setInput_38 : decode b_F_setInput 38 = .ok (.lastore, 1) := by decide +kernel
theorem d_F_setInput_39 : decode b_F_setInput 39 = .ok (.aload_n 0, 1) := by decide +kernel
theorem d_F_setInput_40 : decode b_F_setInput 40 = .ok (.iload_n 1, 1) := by decide +kernel
theorem d_F_setInput_41 : decode b_F_setInput 41 = .ok (.iconst 1, 1) := by decide +kernel
theorem d_F_setInput_42 : decode b_F_setInput 42 = .ok (.iload_n 2, 1) := by decide +kernel
theorem d_F_setInput_43 : decode b_F_setInput 43 = .ok (.ishl, 1) := by decide +kernel
theorem d_F_setInput_44 : decode b_F_setInput 44 = .ok (.invokevirtual 38, 3) := by decide +kernel
theorem d_F_setInput_47 : decode b_F_setInput 47 = .ok (.return_, 1) := by decide +kernel
theorem d_F_join_0 : decode b_F_join 0 = .ok (.aload_n 0, 1) := by decide +kernel
theorem d_F_join_1 : decode b_F_join 1 = .ok (.getfield 13, 3) := by decide +kernel
theorem d_F_join_4 : decode b_F_join 4 = .ok (.iload_n 3, 1) := by decide +kernel
theorem d_F_join_5 : decode b_F_join 5 = .ok (.aaload, 1) := by decide +kernel
theorem d_F_join_6 : decode b_F_join 6 = .ok (.astore 5, 2) := by decide +kernel
theorem d_F_join_8 : decode b_F_join 8 = .ok (.aload_n 0, 1) := by decide +kernel
theorem d_F_join_9 : decode b_F_join 9 = .ok (.getfield 13, 3) := by decide +kernel
theorem d_F_join_12 : decode b_F_join 12 = .ok (.iload 4, 2) := by decide +kernel
theorem d_F_join_14 : decode b_F_join 14 = .ok (.aaload, 1) := by decide +kernel
theorem d_F_join_15 : decode b_F_join 15 = .ok (.astore 6, 2) := by decide +kernel
theorem d_F_join_17 : decode b_F_join 17 = .ok (.aload_n 0, 1) := by decide +kernel
theorem d_F_join_18 : decode b_F_join 18 = .ok (.getfield 28, 3) := by decide +kernel
theorem d_F_join_21 : decode b_F_join 21 = .ok (.astore 7, 2) := by decide +kernel
theorem d_F_join_23 : decode b_F_join 23 = .ok (.aload_n 0, 1) := by decide +kernel
theorem d_F_join_24 : decode b_F_join 24 = .ok (.iload_n 3, 1) := by decide +kernel
theorem d_F_join_25 : decode b_F_join 25 = .ok (.invokevirtual 32, 3) := by decide +kernel
theorem d_F_join_28 : decode b_F_join 28 = .ok (.istore 8, 2) := by decide +kernel
theorem d_F_join_30 : decode b_F_join 30 = .ok (.aload_n 0, 1) := by decide +kernel
theorem d_F_join_31 : decode b_F_join 31 = .ok (.iload 4, 2) := by decide +kernel
theorem d_F_join_33 : decode b_F_join 33 = .ok (.invokevirtual 32, 3) := by decide +kernel
theorem d_F_join_36 : decode b_F_join 36 = .ok (.istore 9, 2) := by decide +kernel
theorem d_F_join_38 : decode b_F_join 38 = .ok (.iload 8, 2) := by decide +kernel
theorem d_F_join_40 : decode b_F_join 40 = .ok (.iload 9, 2) := by decide +kernel
theorem d_F_join_42 : decode b_F_join 42 = .ok (.ior, 1) := by decide +kernel
theorem d_F_join_43 : decode b_F_join 43 = .ok (.invokestatic 45, 3) := by decide +kernel
theorem d_F_join_46 : decode b_F_join 46 = .ok (.istore 10, 2) := by decide +kernel
theorem d_F_join_48 : decode b_F_join 48 = .ok (.iconst 0, 1) := by decide +kernel
theorem d_F_join_49 : decode b_F_join 49 = .ok (.istore 11, 2) := by decide +kernel
theorem d_F_join_51 : decode b_F_join 51 = .ok (.iload 11, 2) := by decide +kernel
theorem d_F_join_53 : decode b_F_join 53 = .ok (.bipush 16, 2) := by decide +kernel
theorem d_F_join_55 : decode b_F_join 55 = .ok (.if_icmp .ge 165, 3) := by decide +kernel
theorem d_F_join_58 : decode b_F_join 58 = .ok (.aload 5, 2) := by decide +kernel
theorem d_F_join_60 : decode b_F_join 60 = .ok (.iload 11, 2) := by decide +kernel
theorem d_F_join_62 : decode b_F_join 62 = .ok (.iload 8, 2) := by decide +kernel
theorem d_F_join_64 : decode b_F_join 64 = .ok (.iand, 1) := by decide +kernel
theorem d_F_join_65 : decode b_F_join 65 = .ok (.laload, 1) := by decide +kernel
theorem d_F_join_66 : decode b_F_join 66 = .ok (.lstore 12, 2) := by decide +kernel
theorem d_F_join_68 : decode b_F_join 68 = .ok (.aload 6, 2) := by decide +kernel
theorem d_F_join_70 : decode b_F_join 70 = .ok (.iload 11, 2) := by decide +kernel
theorem d_F_join_72 : decode b_F_join 72 = .ok (.iload 9, 2) := by decide +kernel
theorem d_F_join_74 : decode b_F_join 74 = .ok (.iand, 1) := by decide +kernel
theorem d_F_join_75 : decode b_F_join 75 = .ok (.laload, 1) := by decide +kernel
theorem d_F_join_76 : decode b_F_join 76 = .ok (.lstore 14, 2) := by decide +kernel
theorem d_F_join_78 : decode b_F_join 78 = .ok (.iload_n 2, 1) := by decide +kernel
theorem d_F_join_79 : decode b_F_join 79 = .ok (.tableswitch 110 0 5 #[37, 50, 63, 76, 93, 110], 37) := by decide +kernel
theorem d_F_join_116 : decode b_F_join 116 = .ok (.aload 7, 2) := by decide +kernel
theorem d_F_join_118 : decode b_F_join 118 = .ok (.iload 11, 2) := by decide +kernel
theorem d_F_join_120 : decode b_F_join 120 = .ok (.lload 12, 2) := by decide +kernel
theorem d_F_join_122 : decode b_F_join 122 = .ok (.lload 14, 2) := by decide +kernel
theorem d_F_join_124 : decode b_F_join 124 = .ok (.land, 1) := by decide +kernel
theorem d_F_join_125 : decode b_F_join 125 = .ok (.lastore, 1) := by decide +kernel
theorem d_F_join_126 : decode b_F_join 126 = .ok (.goto 77, 3) := by decide +kernel
theorem d_F_join_129 : decode b_F_join 129 = .ok (.aload 7, 2) := by decide +kernel
theorem d_F_join_131 : decode b_F_join 131 = .ok (.iload 11, 2) := by decide +kernel
theorem d_F_join_133 : decode b_F_join 133 = .ok (.lload 12, 2) := by decide +kernel
theorem d_F_join_135 : decode b_F_join 135 = .ok (.lload 14, 2) := by decide +kernel
theorem d_F_join_137 : decode b_F_join 137 = .ok (.lor, 1) := by decide +kernel
theorem d_F_join_138 : decode b_F_join 138 = .ok (.lastore, 1) := by decide +kernel
theorem d_F_join_139 : decode b_F_join 139 = .ok (.goto 64, 3) := by decide +kernel
theorem d_F_join_142 : decode b_F_join 142 = .ok (.aload 7, 2) := by decide +kernel
theorem d_F_join_144 : decode b_F_join 144 = .ok (.iload 11, 2) := by decide +kernel
theorem d_F_join_146 : decode b_F_join 146 = .ok (.lload 12, 2) := by decide +kernel
theorem d_F_join_148 : decode b_F_join 148 = .ok (.lload 14, 2) := by decide +kernel
theorem d_F_join_150 : decode b_F_join 150 = .ok (.lxor, 1) := by decide +kernel
theorem d_F_join_151 : decode b_F_join 151 = .ok (.lastore, 1) := by decide +kernel
theorem d_F_join_152 : decode b_F_join 152 = .ok (.goto 51, 3) := by decide +kernel
theorem d_F_join_155 : decode b_F_join 155 = .ok (.aload 7, 2) := by decide +kernel
theorem d_F_join_157 : decode b_F_join 157 = .ok (.iload 11, 2) := by decide +kernel
theorem d_F_join_159 : decode b_F_join 159 = .ok (.lload 12, 2) := by decide +kernel
theorem d_F_join_161 : decode b_F_join 161 = .ok (.ldc2_w 36, 3) := by decide +kernel
theorem d_F_join_164 : decode b_F_join 164 = .ok (.lxor, 1) := by decide +kernel
theorem d_F_join_165 : decode b_F_join 165 = .ok (.lload 14, 2) := by decide +kernel
theorem d_F_join_167 : decode b_F_join 167 = .ok (.lor, 1) := by decide +kernel
theorem d_F_join_168 : decode b_F_join 168 = .ok (.lastore, 1) := by decide +kernel
theorem d_F_join_169 : decode b_F_join 169 = .ok (.goto 34, 3) := by decide +kernel
theorem d_F_join_172 : decode b_F_join 172 = .ok (.aload 7, 2) := by decide +kernel
theorem d_F_join_174 : decode b_F_join 174 = .ok (.iload 11, 2) := by decide +kernel
theorem d_F_join_176 : decode b_F_join 176 = .ok (.lload 12, 2) := by decide +kernel
theorem d_F_join_178 : decode b_F_join 178 = .ok (.lload 14, 2) := by decide +kernel
theorem d_F_join_180 : decode b_F_join 180 = .ok (.lxor, 1) := by decide +kernel
theorem d_F_join_181 : decode b_F_join 181 = .ok (.ldc2_w 36, 3) := by decide +kernel
theorem d_F_join_184 : decode b_F_join 184 = .ok (.lxor, 1) := by decide +kernel
theorem d_F_join_185 : decode b_F_join 185 = .ok (.lastore, 1) := by decide +kernel
theorem d_F_join_186 : decode b_F_join 186 = .ok (.goto 17, 3) := by decide +kernel
theorem d_F_join_189 : decode b_F_join 189 = .ok (.aload 7, 2) := by decide +kernel
theorem d_F_join_191 : decode b_F_join 191 = .ok (.iload 11, 2) := by decide +kernel
theorem d_F_join_193 : decode b_F_join 193 = .ok (.lload 12, 2) := by decide +kernel
theorem d_F_join_195 : decode b_F_join 195 = .ok (.lload 14, 2) := by decide +kernel
theorem d_F_join_197 : decode b_F_join 197 = .ok (.ldc2_w 36, 3) := by decide +kernel
theorem d_F_join_200 : decode b_F_join 200 = .ok (.lxor, 1) := by decide +kernel
theorem d_F_join_201 : decode b_F_join 201 = .ok (.land, 1) := by decide +kernel
theorem d_F_join_202 : decode b_F_join 202 = .ok (.lastore, 1) := by decide +kernel
theorem d_F_join_203 : decode b_F_join 203 = .ok (.iload 11, 2) := by decide +kernel
theorem d_F_join_205 : decode b_F_join 205 = .ok (.iload 10, 2) := by decide +kernel
theorem d_F_join_207 : decode b_F_join 207 = .ok (.ior, 1) := by decide +kernel
theorem d_F_join_208 : decode b_F_join 208 = .ok (.iconst 1, 1) := by decide +kernel
theorem d_F_join_209 : decode b_F_join 209 = .ok (.iadd, 1) := by decide +kernel
theorem d_F_join_210 : decode b_F_join 210 = .ok (.iload 10, 2) := by decide +kernel
theorem d_F_join_212 : decode b_F_join 212 = .ok (.iconst (-1), 1) := by decide +kernel
theorem d_F_join_213 : decode b_F_join 213 = .ok (.ixor, 1) := by decide +kernel
theorem d_F_join_214 : decode b_F_join 214 = .ok (.iand, 1) := by decide +kernel
theorem d_F_join_215 : decode b_F_join 215 = .ok (.istore 11, 2) := by decide +kernel
theorem d_F_join_217 : decode b_F_join 217 = .ok (.goto (-166), 3) := by decide +kernel
theorem d_F_join_220 : decode b_F_join 220 = .ok (.aload_n 0, 1) := by decide +kernel
theorem d_F_join_221 : decode b_F_join 221 = .ok (.iload_n 1, 1) := by decide +kernel
theorem d_F_join_222 : decode b_F_join 222 = .ok (.aload_n 0, 1) := by decide +kernel
theorem d_F_join_223 : decode b_F_join 223 = .ok (.getfield 16, 3) := by decide +kernel
theorem d_F_join_226 : decode b_F_join 226 = .ok (.iload_n 3, 1) := by decide +kernel
theorem d_F_join_227 : decode b_F_join 227 = .ok (.iaload, 1) := by decide +kernel
theorem d_F_join_228 : decode b_F_join 228 = .ok (.aload_n 0, 1) := by decide +kernel
theorem d_F_join_229 : decode b_F_join 229 = .ok (.getfield 16, 3) := by decide +kernel
theorem d_F_join_232 : decode b_F_join 232 = .ok (.iload 4, 2) := by decide +kernel
theorem d_F_join_234 : decode b_F_join 234 = .ok (.iaload, 1) := by decide +kernel
theorem d_F_join_235 : decode b_F_join 235 = .ok (.ior, 1) := by decide +kernel
theorem d_F_join_236 : decode b_F_join 236 = .ok (.invokevirtual 48, 3) := by decide +kernel
theorem d_F_join_239 : decode b_F_join 239 = .ok (.return_, 1) := by decide +kernel
theorem d_F_select_0 : decode b_F_select 0 = .ok (.aload_n 0, 1) := by decide +kernel
theorem d_F_select_1 : decode b_F_select 1 = .ok (.getfield 13, 3) := by decide +kernel
theorem d_F_select_4 : decode b_F_select 4 = .ok (.iload_n 2, 1) := by decide +kernel
theorem d_F_select_5 : decode b_F_select 5 = .ok (.aaload, 1) := by decide +kernel
theorem d_F_select_6 : decode b_F_select 6 = .ok (.astore 5, 2) := by decide +kernel
theorem d_F_select_8 : decode b_F_select 8 = .ok (.aload_n 0, 1) := by decide +kernel
theorem d_F_select_9 : decode b_F_select 9 = .ok (.getfield 13, 3) := by decide +kernel
theorem d_F_select_12 : decode b_F_select 12 = .ok (.iload_n 3, 1) := by decide +kernel
theorem d_F_select_13 : decode b_F_select 13 = .ok (.aaload, 1) := by decide +kernel
theorem d_F_select_14 : decode b_F_select 14 = .ok (.astore 6, 2) := by decide +kernel
theorem d_F_select_16 : decode b_F_select 16 = .ok (.aload_n 0, 1) := by decide +kernel
theorem d_F_select_17 : decode b_F_select 17 = .ok (.getfield 13, 3) := by decide +kernel
theorem d_F_select_20 : decode b_F_select 20 = .ok (.iload 4, 2) := by decide +kernel
theorem d_F_select_22 : decode b_F_select 22 = .ok (.aaload, 1) := by decide +kernel
theorem d_F_select_23 : decode b_F_select 23 = .ok (.astore 7, 2) := by decide +kernel
theorem d_F_select_25 : decode b_F_select 25 = .ok (.aload_n 0, 1) := by decide +kernel
theorem d_F_select_26 : decode b_F_select 26 = .ok (.getfield 28, 3) := by decide +kernel
theorem d_F_select_29 : decode b_F_select 29 = .ok (.astore 8, 2) := by decide +kernel
theorem d_F_select_31 : decode b_F_select 31 = .ok (.aload_n 0, 1) := by decide +kernel
theorem d_F_select_32 : decode b_F_select 32 = .ok (.iload_n 2, 1) := by decide +kernel
theorem d_F_select_33 : decode b_F_select 33 = .ok (.invokevirtual 32, 3) := by decide +kernel
theorem d_F_select_36 : decode b_F_select 36 = .ok (.istore 9, 2) := by decide +kernel
theorem d_F_select_38 : decode b_F_select 38 = .ok (.aload_n 0, 1) := by decide +kernel
theorem d_F_select_39 : decode b_F_select 39 = .ok (.iload_n 3, 1) := by decide +kernel
theorem d_F_select_40 : decode b_F_select 40 = .ok (.invokevirtual 32, 3) := by decide +kernel
theorem d_F_select_43 : decode b_F_select 43 = .ok (.istore 10, 2) := by decide +kernel
theorem d_F_select_45 : decode b_F_select 45 = .ok (.aload_n 0, 1) := by decide +kernel
theorem d_F_select_46 : decode b_F_select 46 = .ok (.iload 4, 2) := by decide +kernel
theorem d_F_select_48 : decode b_F_select 48 = .ok (.invokevirtual 32, 3) := by decide +kernel
theorem d_F_select_51 : decode b_F_select 51 = .ok (.istore 11, 2) := by decide +kernel
theorem d_F_select_53 : decode b_F_select 53 = .ok (.iload 9, 2) := by decide +kernel
theorem d_F_select_55 : decode b_F_select 55 = .ok (.iload 10, 2) := by decide +kernel
theorem d_F_select_57 : decode b_F_select 57 = .ok (.ior, 1) := by decide +kernel
theorem d_F_select_58 : decode b_F_select 58 = .ok (.iload 11, 2) := by decide +kernel
theorem d_F_select_60 : decode b_F_select 60 = .ok (.ior, 1) := by decide +kernel
theorem d_F_select_61 : decode b_F_select 61 = .ok (.invokestatic 45, 3) := by decide +kernel
theorem d_F_select_64 : decode b_F_select 64 = .ok (.istore 12, 2) := by decide +kernel
theorem d_F_select_66 : decode b_F_select 66 = .ok (.iconst 0, 1) := by decide +kernel
theorem d_F_select_67 : decode b_F_select 67 = .ok (.istore 13, 2) := by decide +kernel
theorem d_F_select_69 : decode b_F_select 69 = .ok (.iload 13, 2) := by decide +kernel
theorem d_F_select_71 : decode b_F_select 71 = .ok (.bipush 16, 2) := by decide +kernel
theorem d_F_select_73 : decode b_F_select 73 = .ok (.if_icmp .ge 62, 3) := by decide +kernel
theorem d_F_select_76 : decode b_F_select 76 = .ok (.aload 5, 2) := by decide +kernel
theorem d_F_select_78 : decode b_F_select 78 = .ok (.iload 13, 2) := by decide +kernel
theorem d_F_select_80 : decode b_F_select 80 = .ok (.iload 9, 2) := by decide +kernel
theorem d_F_select_82 : decode b_F_select 82 = .ok (.iand, 1) := by decide +kernel
theorem d_F_select_83 : decode b_F_select 83 = .ok (.laload, 1) := by decide +kernel
theorem d_F_select_84 : decode b_F_select 84 = .ok (.lstore 14, 2) := by decide +kernel
theorem d_F_select_86 : decode b_F_select 86 = .ok (.aload 8, 2) := by decide +kernel
theorem d_F_select_88 : decode b_F_select 88 = .ok (.iload 13, 2) := by decide +kernel
theorem d_F_select_90 : decode b_F_select 90 = .ok (.lload 14, 2) := by decide +kernel
theorem d_F_select_92 : decode b_F_select 92 = .ok (.aload 6, 2) := by decide +kernel
theorem d_F_select_94 : decode b_F_select 94 = .ok (.iload 13, 2) := by decide +kernel
theorem d_F_select_96 : decode b_F_select 96 = .ok (.iload 10, 2) := by decide +kernel
theorem d_F_select_98 : decode b_F_select 98 = .ok (.iand, 1) := by decide +kernel
theorem d_F_select_99 : decode b_F_select 99 = .ok (.laload, 1) := by decide +kernel
theorem d_F_select_100 : decode b_F_select 100 = .ok (.land, 1) := by decide +kernel
theorem d_F_select_101 : decode b_F_select 101 = .ok (.lload 14, 2) := by decide +kernel
theorem d_F_select_103 : decode b_F_select 103 = .ok (.ldc2_w 36, 3) := by decide +kernel
theorem d_F_select_106 : decode b_F_select 106 = .ok (.lxor, 1) := by decide +kernel
theorem d_F_select_107 : decode b_F_select 107 = .ok (.aload 7, 2) := by decide +kernel
theorem d_F_select_109 : decode b_F_select 109 = .ok (.iload 13, 2) := by decide +kernel
theorem d_F_select_111 : decode b_F_select 111 = .ok (.iload 11, 2) := by decide +kernel
theorem d_F_select_113 : decode b_F_select 113 = .ok (.iand, 1) := by decide +kernel
theorem d_F_select_114 : decode b_F_select 114 = .ok (.laload, 1) := by decide +kernel
theorem d_F_select_115 : decode b_F_select 115 = .ok (.land, 1) := by decide +kernel
theorem d_F_select_116 : decode b_F_select 116 = .ok (.lor, 1) := by decide +kernel
theorem d_F_select_117 : decode b_F_select 117 = .ok (.lastore, 1) := by decide +kernel
theorem d_F_select_118 : decode b_F_select 118 = .ok (.iload 13, 2) := by decide +kernel
theorem d_F_select_120 : decode b_F_select 120 = .ok (.iload 12, 2) := by decide +kernel
theorem d_F_select_122 : decode b_F_select 122 = .ok (.ior, 1) := by decide +kernel
theorem d_F_select_123 : decode b_F_select 123 = .ok (.iconst 1, 1) := by decide +kernel
theorem d_F_select_124 : decode b_F_select 124 = .ok (.iadd, 1) := by decide +kernel
theorem d_F_select_125 : decode b_F_select 125 = .ok (.iload 12, 2) := by decide +kernel
theorem d_F_select_127 : decode b_F_select 127 = .ok (.iconst (-1), 1) := by decide +kernel
theorem d_F_select_128 : decode b_F_select 128 = .ok (.ixor, 1) := by decide +kernel
theorem d_F_select_129 : decode b_F_select 129 = .ok (.iand, 1) := by decide +kernel
theorem d_F_select_130 : decode b_F_select 130 = .ok (.istore 13, 2) := by decide +kernel
theorem d_F_select_132 : decode b_F_select 132 = .ok (.goto (-63), 3) := by decide +kernel
theorem d_F_select_135 : decode b_F_select 135 = .ok (.aload_n 0, 1) := by decide +kernel
theorem d_F_select_136 : decode b_F_select 136 = .ok (.iload_n 1, 1) := by decide +kernel
theorem d_F_select_137 : decode b_F_select 137 = .ok (.aload_n 0, 1) := by decide +kernel
theorem d_F_select_138 : decode b_F_select 138 = .ok (.getfield 16, 3) := by decide +kernel
theorem d_F_select_141 : decode b_F_select 141 = .ok (.iload_n 2, 1) := by decide +kernel
theorem d_F_select_142 : decode b_F_select 142 = .ok (.iaload, 1) := by decide +kernel
theorem d_F_select_143 : decode b_F_select 143 = .ok (.aload_n 0, 1) := by decide +kernel
theorem d_F_select_144 : decode b_F_select 144 = .ok (.getfield 16, 3) := by decide +kernel
theorem d_F_select_147 : decode b_F_select 147 = .ok (.iload_n 3, 1) := by decide +kernel
theorem d_F_select_148 : decode b_F_select 148 = .ok (.iaload, 1) := by decide +kernel
theorem d_F_select_149 : decode b_F_select 149 = .ok (.ior, 1) := by decide +kernel
theorem d_F_select_150 : decode b_F_select 150 = .ok (.aload_n 0, 1) := by decide +kernel
theorem d_F_select_151 : decode b_F_select 151 = .ok (.getfield 16, 3) := by decide +kernel
theorem d_F_select_154 : decode b_F_select 154 = .ok (.iload 4, 2) := by decide +kernel
theorem d_F_select_156 : decode b_F_select 156 = .ok (.iaload, 1) := by decide +kernel
theorem d_F_select_157 : decode b_F_select 157 = .ok (.ior, 1) := by decide +kernel
theorem d_F_select_158 : decode b_F_select 158 = .ok (.invokevirtual 48, 3) := by decide +kernel
theorem d_F_select_161 : decode b_F_select 161 = .ok (.return_, 1) := by decide +kernel
theorem d_F_restrict_0 : decode b_F_restrict 0 = .ok (.aload_n 0, 1) := by decide +kernel
theorem d_F_restrict_1 : decode b_F_restrict 1 = .ok (.getfield 16, 3) := by decide +kernel
theorem d_F_restrict_4 : decode b_F_restrict 4 = .ok (.iload_n 2, 1) := by decide +kernel
theorem d_F_restrict_5 : decode b_F_restrict 5 = .ok (.iaload, 1) := by decide +kernel
theorem d_F_restrict_6 : decode b_F_restrict 6 = .ok (.iconst 1, 1) := by decide +kernel
theorem d_F_restrict_7 : decode b_F_restrict 7 = .ok (.iload_n 3, 1) := by decide +kernel
theorem d_F_restrict_8 : decode b_F_restrict 8 = .ok (.ishl, 1) := by decide +kernel
theorem d_F_restrict_9 : decode b_F_restrict 9 = .ok (.iconst (-1), 1) := by decide +kernel
theorem d_F_restrict_10 : decode b_F_restrict 10 = .ok (.ixor, 1) := by decide +kernel
theorem d_F_restrict_11 : decode b_F_restrict 11 = .ok (.iand, 1) := by decide +kernel
theorem d_F_restrict_12 : decode b_F_restrict 12 = .ok (.istore 5, 2) := by decide +kernel
theorem d_F_restrict_14 : decode b_F_restrict 14 = .ok (.iload_n 3, 1) := by decide +kernel
theorem d_F_restrict_15 : decode b_F_restrict 15 = .ok (.bipush 6, 2) := by decide +kernel
theorem d_F_restrict_17 : decode b_F_restrict 17 = .ok (.if_icmp .ge 14, 3) := by decide +kernel
theorem d_F_restrict_20 : decode b_F_restrict 20 = .ok (.aload_n 0, 1) := by decide +kernel
theorem d_F_restrict_21 : decode b_F_restrict 21 = .ok (.iload_n 2, 1) := by decide +kernel
theorem d_F_restrict_22 : decode b_F_restrict 22 = .ok (.iload_n 3, 1) := by decide +kernel
theorem d_F_restrict_23 : decode b_F_restrict 23 = .ok (.iload 4, 2) := by decide +kernel
theorem d_F_restrict_25 : decode b_F_restrict 25 = .ok (.invokevirtual 51, 3) := by decide +kernel
theorem d_F_restrict_28 : decode b_F_restrict 28 = .ok (.goto 21, 3) := by decide +kernel
theorem d_F_restrict_31 : decode b_F_restrict 31 = .ok (.aload_n 0, 1) := by decide +kernel
theorem d_F_restrict_32 : decode b_F_restrict 32 = .ok (.iload_n 2, 1) := by decide +kernel
theorem d_F_restrict_33 : decode b_F_restrict 33 = .ok (.iload 5, 2) := by decide +kernel
theorem d_F_restrict_35 : decode b_F_restrict 35 = .ok (.iload 4, 2) := by decide +kernel
theorem d_F_restrict_37 : decode b_F_restrict 37 = .ok (.iload_n 3, 1) := by decide +kernel
theorem d_F_restrict_38 : decode b_F_restrict 38 = .ok (.ishl, 1) := by decide +kernel
theorem d_F_restrict_39 : decode b_F_restrict 39 = .ok (.aload_n 0, 1) := by decide +kernel
theorem d_F_restrict_40 : decode b_F_restrict 40 = .ok (.getfield 16, 3) := by decide +kernel
theorem d_F_restrict_43 : decode b_F_restrict 43 = .ok (.iload_n 2, 1) := by decide +kernel
theorem d_F_restrict_44 : decode b_F_restrict 44 = .ok (.iaload, 1) := by decide +kernel
theorem d_F_restrict_45 : decode b_F_restrict 45 = .ok (.iand, 1) := by decide +kernel
theorem d_F_restrict_46 : decode b_F_restrict 46 = .ok (.invokevirtual 55, 3) := by decide +kernel
theorem d_F_restrict_49 : decode b_F_restrict 49 = .ok (.aload_n 0, 1) := by decide +kernel
theorem d_F_restrict_50 : decode b_F_restrict 50 = .ok (.iload_n 1, 1) := by decide +kernel
theorem d_F_restrict_51 : decode b_F_restrict 51 = .ok (.iload 5, 2) := by decide +kernel
theorem d_F_restrict_53 : decode b_F_restrict 53 = .ok (.invokevirtual 48, 3) := by decide +kernel
theorem d_F_restrict_56 : decode b_F_restrict 56 = .ok (.return_, 1) := by decide +kernel
theorem d_F_restrictWithinWords_0 : decode b_F_restrictWithinWords 0 = .ok (.aload_n 0, 1) := by decide +kernel
theorem d_F_restrictWithinWords_1 : decode b_F_restrictWithinWords 1 = .ok (.getfield 13, 3) := by decide +kernel
theorem d_F_restrictWithinWords_4 : decode b_F_restrictWithinWords 4 = .ok (.iload_n 1, 1) := by decide +kernel
theorem d_F_restrictWithinWords_5 : decode b_F_restrictWithinWords 5 = .ok (.aaload, 1) := by decide +kernel
theorem d_F_restrictWithinWords_6 : decode b_F_restrictWithinWords 6 = .ok (.astore 4, 2) := by decide +kernel
theorem d_F_restrictWithinWords_8 : decode b_F_restrictWithinWords 8 = .ok (.aload_n 0, 1) := by decide +kernel
theorem d_F_restrictWithinWords_9 : decode b_F_restrictWithinWords 9 = .ok (.getfield 28, 3) := by decide +kernel
theorem d_F_restrictWithinWords_12 : decode b_F_restrictWithinWords 12 = .ok (.astore 5, 2) := by decide +kernel
theorem d_F_restrictWithinWords_14 : decode b_F_restrictWithinWords 14 = .ok (.getstatic 42, 3) := by decide +kernel
theorem d_F_restrictWithinWords_17 : decode b_F_restrictWithinWords 17 = .ok (.iload_n 2, 1) := by decide +kernel
theorem d_F_restrictWithinWords_18 : decode b_F_restrictWithinWords 18 = .ok (.laload, 1) := by decide +kernel
theorem d_F_restrictWithinWords_19 : decode b_F_restrictWithinWords 19 = .ok (.lstore 6, 2) := by decide +kernel
theorem d_F_restrictWithinWords_21 : decode b_F_restrictWithinWords 21 = .ok (.iconst 1, 1) := by decide +kernel
theorem d_F_restrictWithinWords_22 : decode b_F_restrictWithinWords 22 = .ok (.iload_n 2, 1) := by decide +kernel
theorem d_F_restrictWithinWords_23 : decode b_F_restrictWithinWords 23 = .ok (.ishl, 1) := by decide +kernel
theorem d_F_restrictWithinWords_24 : decode b_F_restrictWithinWords 24 = .ok (.istore 8, 2) := by decide +kernel
theorem d_F_restrictWithinWords_26 : decode b_F_restrictWithinWords 26 = .ok (.aload_n 0, 1) := by decide +kernel
theorem d_F_restrictWithinWords_27 : decode b_F_restrictWithinWords 27 = .ok (.iload_n 1, 1) := by decide +kernel
theorem d_F_restrictWithinWords_28 : decode b_F_restrictWithinWords 28 = .ok (.invokevirtual 32, 3) := by decide +kernel
theorem d_F_restrictWithinWords_31 : decode b_F_restrictWithinWords 31 = .ok (.invokestatic 45, 3) := by decide +kernel
theorem d_F_restrictWithinWords_34 : decode b_F_restrictWithinWords 34 = .ok (.istore 9, 2) := by decide +kernel
theorem d_F_restrictWithinWords_36 : decode b_F_restrictWithinWords 36 = .ok (.iconst 0, 1) := by decide +kernel
theorem d_F_restrictWithinWords_37 : decode b_F_restrictWithinWords 37 = .ok (.istore 10, 2) := by decide +kernel
theorem d_F_restrictWithinWords_39 : decode b_F_restrictWithinWords 39 = .ok (.iload 10, 2) := by decide +kernel
theorem d_F_restrictWithinWords_41 : decode b_F_restrictWithinWords 41 = .ok (.bipush 16, 2) := by decide +kernel
theorem d_F_restrictWithinWords_43 : decode b_F_restrictWithinWords 43 = .ok (.if_icmp .ge 79, 3) := by decide +kernel
theorem d_F_restrictWithinWords_46 : decode b_F_restrictWithinWords 46 = .ok (.aload 4, 2) := by decide +kernel
theorem d_F_restrictWithinWords_48 : decode b_F_restrictWithinWords 48 = .ok (.iload 10, 2) := by decide +kernel
theorem d_F_restrictWithinWords_50 : decode b_F_restrictWithinWords 50 = .ok (.laload, 1) := by decide +kernel
theorem d_F_restrictWithinWords_51 : decode b_F_restrictWithinWords 51 = .ok (.lstore 11, 2) := by decide +kernel
theorem d_F_restrictWithinWords_53 : decode b_F_restrictWithinWords 53 = .ok (.iload_n 3, 1) := by decide +kernel
theorem d_F_restrictWithinWords_54 : decode b_F_restrictWithinWords 54 = .ok (.iconst 1, 1) := by decide +kernel
theorem d_F_restrictWithinWords_55 : decode b_F_restrictWithinWords 55 = .ok (.if_icmp .ne 26, 3) := by decide +kernel
theorem d_F_restrictWithinWords_58 : decode b_F_restrictWithinWords 58 = .ok (.lload 11, 2) := by decide +kernel
theorem d_F_restrictWithinWords_60 : decode b_F_restrictWithinWords 60 = .ok (.lload 6, 2) := by decide +kernel
theorem d_F_restrictWithinWords_62 : decode b_F_restrictWithinWords 62 = .ok (.land, 1) := by decide +kernel
theorem d_F_restrictWithinWords_63 : decode b_F_restrictWithinWords 63 = .ok (.lstore 11, 2) := by decide +kernel
theorem d_F_restrictWithinWords_65 : decode b_F_restrictWithinWords 65 = .ok (.aload 5, 2) := by decide +kernel
theorem d_F_restrictWithinWords_67 : decode b_F_restrictWithinWords 67 = .ok (.iload 10, 2) := by decide +kernel
theorem d_F_restrictWithinWords_69 : decode b_F_restrictWithinWords 69 = .ok (.lload 11, 2) := by decide +kernel
theorem d_F_restrictWithinWords_71 : decode b_F_restrictWithinWords 71 = .ok (.lload 11, 2) := by decide +kernel
theorem d_F_restrictWithinWords_73 : decode b_F_restrictWithinWords 73 = .ok (.iload 8, 2) := by decide +kernel
theorem d_F_restrictWithinWords_75 : decode b_F_restrictWithinWords 75 = .ok (.lushr, 1) := by decide +kernel
theorem d_F_restrictWithinWords_76 : decode b_F_restrictWithinWords 76 = .ok (.lor, 1) := by decide +kernel
theorem d_F_restrictWithinWords_77 : decode b_F_restrictWithinWords 77 = .ok (.lastore, 1) := by decide +kernel
theorem d_F_restrictWithinWords_78 : decode b_F_restrictWithinWords 78 = .ok (.goto 27, 3) := by decide +kernel
theorem d_F_restrictWithinWords_81 : decode b_F_restrictWithinWords 81 = .ok (.lload 11, 2) := by decide +kernel
theorem d_F_restrictWithinWords_83 : decode b_F_restrictWithinWords 83 = .ok (.lload 6, 2) := by decide +kernel
theorem d_F_restrictWithinWords_85 : decode b_F_restrictWithinWords 85 = .ok (.ldc2_w 36, 3) := by decide +kernel
theorem d_F_restrictWithinWords_88 : decode b_F_restrictWithinWords 88 = .ok (.lxor, 1) := by decide +kernel
theorem d_F_restrictWithinWords_89 : decode b_F_restrictWithinWords 89 = .ok (.land, 1) := by decide +kernel
theorem d_F_restrictWithinWords_90 : decode b_F_restrictWithinWords 90 = .ok (.lstore 11, 2) := by decide +kernel
theorem d_F_restrictWithinWords_92 : decode b_F_restrictWithinWords 92 = .ok (.aload 5, 2) := by decide +kernel
theorem d_F_restrictWithinWords_94 : decode b_F_restrictWithinWords 94 = .ok (.iload 10, 2) := by decide +kernel
theorem d_F_restrictWithinWords_96 : decode b_F_restrictWithinWords 96 = .ok (.lload 11, 2) := by decide +kernel
theorem d_F_restrictWithinWords_98 : decode b_F_restrictWithinWords 98 = .ok (.lload 11, 2) := by decide +kernel
theorem d_F_restrictWithinWords_100 : decode b_F_restrictWithinWords 100 = .ok (.iload 8, 2) := by decide +kernel
theorem d_F_restrictWithinWords_102 : decode b_F_restrictWithinWords 102 = .ok (.lshl, 1) := by decide +kernel
theorem d_F_restrictWithinWords_103 : decode b_F_restrictWithinWords 103 = .ok (.lor, 1) := by decide +kernel
theorem d_F_restrictWithinWords_104 : decode b_F_restrictWithinWords 104 = .ok (.lastore, 1) := by decide +kernel
theorem d_F_restrictWithinWords_105 : decode b_F_restrictWithinWords 105 = .ok (.iload 10, 2) := by decide +kernel
theorem d_F_restrictWithinWords_107 : decode b_F_restrictWithinWords 107 = .ok (.iload 9, 2) := by decide +kernel
theorem d_F_restrictWithinWords_109 : decode b_F_restrictWithinWords 109 = .ok (.ior, 1) := by decide +kernel
theorem d_F_restrictWithinWords_110 : decode b_F_restrictWithinWords 110 = .ok (.iconst 1, 1) := by decide +kernel
theorem d_F_restrictWithinWords_111 : decode b_F_restrictWithinWords 111 = .ok (.iadd, 1) := by decide +kernel
theorem d_F_restrictWithinWords_112 : decode b_F_restrictWithinWords 112 = .ok (.iload 9, 2) := by decide +kernel
theorem d_F_restrictWithinWords_114 : decode b_F_restrictWithinWords 114 = .ok (.iconst (-1), 1) := by decide +kernel
theorem d_F_restrictWithinWords_115 : decode b_F_restrictWithinWords 115 = .ok (.ixor, 1) := by decide +kernel
theorem d_F_restrictWithinWords_116 : decode b_F_restrictWithinWords 116 = .ok (.iand, 1) := by decide +kernel
theorem d_F_restrictWithinWords_117 : decode b_F_restrictWithinWords 117 = .ok (.istore 10, 2) := by decide +kernel
theorem d_F_restrictWithinWords_119 : decode b_F_restrictWithinWords 119 = .ok (.goto (-80), 3) := by decide +kernel
theorem d_F_restrictWithinWords_122 : decode b_F_restrictWithinWords 122 = .ok (.return_, 1) := by decide +kernel
theorem d_F_restrictWords_0 : decode b_F_restrictWords 0 = .ok (.aload_n 0, 1) := by decide +kernel
theorem d_F_restrictWords_1 : decode b_F_restrictWords 1 = .ok (.getfield 13, 3) := by decide +kernel
theorem d_F_restrictWords_4 : decode b_F_restrictWords 4 = .ok (.iload_n 1, 1) := by decide +kernel
theorem d_F_restrictWords_5 : decode b_F_restrictWords 5 = .ok (.aaload, 1) := by decide +kernel
theorem d_F_restrictWords_6 : decode b_F_restrictWords 6 = .ok (.astore 4, 2) := by decide +kernel
theorem d_F_restrictWords_8 : decode b_F_restrictWords 8 = .ok (.aload_n 0, 1) := by decide +kernel
theorem d_F_restrictWords_9 : decode b_F_restrictWords 9 = .ok (.getfield 28, 3) := by decide +kernel
theorem d_F_restrictWords_12 : decode b_F_restrictWords 12 = .ok (.astore 5, 2) := by decide +kernel
theorem d_F_restrictWords_14 : decode b_F_restrictWords 14 = .ok (.iload_n 3, 1) := by decide +kernel
theorem d_F_restrictWords_15 : decode b_F_restrictWords 15 = .ok (.bipush 6, 2) := by decide +kernel
theorem d_F_restrictWords_17 : decode b_F_restrictWords 17 = .ok (.ishr, 1) := by decide +kernel
theorem d_F_restrictWords_18 : decode b_F_restrictWords 18 = .ok (.istore 6, 2) := by decide +kernel
theorem d_F_restrictWords_20 : decode b_F_restrictWords 20 = .ok (.iload_n 2, 1) := by decide +kernel
theorem d_F_restrictWords_21 : decode b_F_restrictWords 21 = .ok (.bipush 6, 2) := by decide +kernel
theorem d_F_restrictWords_23 : decode b_F_restrictWords 23 = .ok (.ishr, 1) := by decide +kernel
theorem d_F_restrictWords_24 : decode b_F_restrictWords 24 = .ok (.invokestatic 45, 3) := by decide +kernel
theorem d_F_restrictWords_27 : decode b_F_restrictWords 27 = .ok (.istore 7, 2) := by decide +kernel
theorem d_F_restrictWords_29 : decode b_F_restrictWords 29 = .ok (.iconst 0, 1) := by decide +kernel
theorem d_F_restrictWords_30 : decode b_F_restrictWords 30 = .ok (.istore 8, 2) := by decide +kernel
theorem d_F_restrictWords_32 : decode b_F_restrictWords 32 = .ok (.iload 8, 2) := by decide +kernel
theorem d_F_restrictWords_34 : decode b_F_restrictWords 34 = .ok (.bipush 16, 2) := by decide +kernel
theorem d_F_restrictWords_36 : decode b_F_restrictWords 36 = .ok (.if_icmp .ge 33, 3) := by decide +kernel
theorem d_F_restrictWords_39 : decode b_F_restrictWords 39 = .ok (.aload 5, 2) := by decide +kernel
theorem d_F_restrictWords_41 : decode b_F_restrictWords 41 = .ok (.iload 8, 2) := by decide +kernel
theorem d_F_restrictWords_43 : decode b_F_restrictWords 43 = .ok (.aload 4, 2) := by decide +kernel
theorem d_F_restrictWords_45 : decode b_F_restrictWords 45 = .ok (.iload 8, 2) := by decide +kernel
theorem d_F_restrictWords_47 : decode b_F_restrictWords 47 = .ok (.iload 6, 2) := by decide +kernel
theorem d_F_restrictWords_49 : decode b_F_restrictWords 49 = .ok (.ior, 1) := by decide +kernel
theorem d_F_restrictWords_50 : decode b_F_restrictWords 50 = .ok (.laload, 1) := by decide +kernel
theorem d_F_restrictWords_51 : decode b_F_restrictWords 51 = .ok (.lastore, 1) := by decide +kernel
theorem d_F_restrictWords_52 : decode b_F_restrictWords 52 = .ok (.iload 8, 2) := by decide +kernel
theorem d_F_restrictWords_54 : decode b_F_restrictWords 54 = .ok (.iload 7, 2) := by decide +kernel
theorem d_F_restrictWords_56 : decode b_F_restrictWords 56 = .ok (.ior, 1) := by decide +kernel
theorem d_F_restrictWords_57 : decode b_F_restrictWords 57 = .ok (.iconst 1, 1) := by decide +kernel
theorem d_F_restrictWords_58 : decode b_F_restrictWords 58 = .ok (.iadd, 1) := by decide +kernel
theorem d_F_restrictWords_59 : decode b_F_restrictWords 59 = .ok (.iload 7, 2) := by decide +kernel
theorem d_F_restrictWords_61 : decode b_F_restrictWords 61 = .ok (.iconst (-1), 1) := by decide +kernel
theorem d_F_restrictWords_62 : decode b_F_restrictWords 62 = .ok (.ixor, 1) := by decide +kernel
theorem d_F_restrictWords_63 : decode b_F_restrictWords 63 = .ok (.iand, 1) := by decide +kernel
theorem d_F_restrictWords_64 : decode b_F_restrictWords 64 = .ok (.istore 8, 2) := by decide +kernel
theorem d_F_restrictWords_66 : decode b_F_restrictWords 66 = .ok (.goto (-34), 3) := by decide +kernel
theorem d_F_restrictWords_69 : decode b_F_restrictWords 69 = .ok (.return_, 1) := by decide +kernel
theorem d_F_replace_0 : decode b_F_replace 0 = .ok (.aload_n 0, 1) := by decide +kernel
theorem d_F_replace_1 : decode b_F_replace 1 = .ok (.getfield 16, 3) := by decide +kernel
theorem d_F_replace_4 : decode b_F_replace 4 = .ok (.iload_n 2, 1) := by decide +kernel
theorem d_F_replace_5 : decode b_F_replace 5 = .ok (.iaload, 1) := by decide +kernel
theorem d_F_replace_6 : decode b_F_replace 6 = .ok (.iload_n 3, 1) := by decide +kernel
theorem d_F_replace_7 : decode b_F_replace 7 = .ok (.ishr, 1) := by decide +kernel
theorem d_F_replace_8 : decode b_F_replace 8 = .ok (.iconst 1, 1) := by decide +kernel
theorem d_F_replace_9 : decode b_F_replace 9 = .ok (.iand, 1) := by decide +kernel
theorem d_F_replace_10 : decode b_F_replace 10 = .ok (.ifCond .ne 12, 3) := by decide +kernel
theorem d_F_replace_13 : decode b_F_replace 13 = .ok (.aload_n 0, 1) := by decide +kernel
theorem d_F_replace_14 : decode b_F_replace 14 = .ok (.iload_n 1, 1) := by decide +kernel
theorem d_F_replace_15 : decode b_F_replace 15 = .ok (.iload_n 2, 1) := by decide +kernel
theorem d_F_replace_16 : decode b_F_replace 16 = .ok (.iload_n 3, 1) := by decide +kernel
theorem d_F_replace_17 : decode b_F_replace 17 = .ok (.iconst 0, 1) := by decide +kernel
theorem d_F_replace_18 : decode b_F_replace 18 = .ok (.invokevirtual 58, 3) := by decide +kernel
theorem d_F_replace_21 : decode b_F_replace 21 = .ok (.return_, 1) := by decide +kernel
theorem d_F_replace_22 : decode b_F_replace 22 = .ok (.aload_n 0, 1) := by decide +kernel
theorem d_F_replace_23 : decode b_F_replace 23 = .ok (.getfield 16, 3) := by decide +kernel
theorem d_F_replace_26 : decode b_F_replace 26 = .ok (.iload_n 2, 1) := by decide +kernel
theorem d_F_replace_27 : decode b_F_replace 27 = .ok (.iaload, 1) := by decide +kernel
theorem d_F_replace_28 : decode b_F_replace 28 = .ok (.iconst 1, 1) := by decide +kernel
theorem d_F_replace_29 : decode b_F_replace 29 = .ok (.iload_n 3, 1) := by decide +kernel
theorem d_F_replace_30 : decode b_F_replace 30 = .ok (.ishl, 1) := by decide +kernel
theorem d_F_replace_31 : decode b_F_replace 31 = .ok (.iconst (-1), 1) := by decide +kernel
theorem d_F_replace_32 : decode b_F_replace 32 = .ok (.ixor, 1) := by decide +kernel
theorem d_F_replace_33 : decode b_F_replace 33 = .ok (.iand, 1) := by decide +kernel
theorem d_F_replace_34 : decode b_F_replace 34 = .ok (.aload_n 0, 1) := by decide +kernel
theorem d_F_replace_35 : decode b_F_replace 35 = .ok (.getfield 16, 3) := by decide +kernel
theorem d_F_replace_38 : decode b_F_replace 38 = .ok (.iload 4, 2) := by decide +kernel
theorem d_F_replace_40 : decode b_F_replace 40 = .ok (.iaload, 1) := by decide +kernel
theorem d_F_replace_41 : decode b_F_replace 41 = .ok (.ior, 1) := by decide +kernel
theorem d_F_replace_42 : decode b_F_replace 42 = .ok (.istore 5, 2) := by decide +kernel
theorem d_F_replace_44 : decode b_F_replace 44 = .ok (.iload_n 3, 1) := by decide +kernel
theorem d_F_replace_45 : decode b_F_replace 45 = .ok (.bipush 6, 2) := by decide +kernel
theorem d_F_replace_47 : decode b_F_replace 47 = .ok (.if_icmp .ge 14, 3) := by decide +kernel
theorem d_F_replace_50 : decode b_F_replace 50 = .ok (.aload_n 0, 1) := by decide +kernel
theorem d_F_replace_51 : decode b_F_replace 51 = .ok (.iload_n 2, 1) := by decide +kernel
theorem d_F_replace_52 : decode b_F_replace 52 = .ok (.iload_n 3, 1) := by decide +kernel
theorem d_F_replace_53 : decode b_F_replace 53 = .ok (.iload 4, 2) := by decide +kernel
theorem d_F_replace_55 : decode b_F_replace 55 = .ok (.invokevirtual 62, 3) := by decide +kernel
theorem d_F_replace_58 : decode b_F_replace 58 = .ok (.goto 18, 3) := by decide +kernel
theorem d_F_replace_61 : decode b_F_replace 61 = .ok (.aload_n 0, 1) := by decide +kernel
theorem d_F_replace_62 : decode b_F_replace 62 = .ok (.iload_n 2, 1) := by decide +kernel
theorem d_F_replace_63 : decode b_F_replace 63 = .ok (.iconst 1, 1) := by decide +kernel
theorem d_F_replace_64 : decode b_F_replace 64 = .ok (.iload_n 3, 1) := by decide +kernel
theorem d_F_replace_65 : decode b_F_replace 65 = .ok (.bipush 6, 2) := by decide +kernel
theorem d_F_replace_67 : decode b_F_replace 67 = .ok (.isub, 1) := by decide +kernel
theorem d_F_replace_68 : decode b_F_replace 68 = .ok (.ishl, 1) := by decide +kernel
theorem d_F_replace_69 : decode b_F_replace 69 = .ok (.iload 4, 2) := by decide +kernel
theorem d_F_replace_71 : decode b_F_replace 71 = .ok (.iload 5, 2) := by decide +kernel
theorem d_F_replace_73 : decode b_F_replace 73 = .ok (.invokevirtual 65, 3) := by decide +kernel
theorem d_F_replace_76 : decode b_F_replace 76 = .ok (.aload_n 0, 1) := by decide +kernel
theorem d_F_replace_77 : decode b_F_replace 77 = .ok (.iload_n 1, 1) := by decide +kernel
theorem d_F_replace_78 : decode b_F_replace 78 = .ok (.iload 5, 2) := by decide +kernel
theorem d_F_replace_80 : decode b_F_replace 80 = .ok (.invokevirtual 48, 3) := by decide +kernel
theorem d_F_replace_83 : decode b_F_replace 83 = .ok (.return_, 1) := by decide +kernel
theorem d_F_replaceWithinWords_0 : decode b_F_replaceWithinWords 0 = .ok (.aload_n 0, 1) := by decide +kernel
theorem d_F_replaceWithinWords_1 : decode b_F_replaceWithinWords 1 = .ok (.getfield 13, 3) := by decide +kernel
theorem d_F_replaceWithinWords_4 : decode b_F_replaceWithinWords 4 = .ok (.iload_n 1, 1) := by decide +kernel
theorem d_F_replaceWithinWords_5 : decode b_F_replaceWithinWords 5 = .ok (.aaload, 1) := by decide +kernel
theorem d_F_replaceWithinWords_6 : decode b_F_replaceWithinWords 6 = .ok (.astore 4, 2) := by decide +kernel
theorem d_F_replaceWithinWords_8 : decode b_F_replaceWithinWords 8 = .ok (.aload_n 0, 1) := by decide +kernel
theorem d_F_replaceWithinWords_9 : decode b_F_replaceWithinWords 9 = .ok (.getfield 13, 3) := by decide +kernel
theorem d_F_replaceWithinWords_12 : decode b_F_replaceWithinWords 12 = .ok (.iload_n 3, 1) := by decide +kernel
theorem d_F_replaceWithinWords_13 : decode b_F_replaceWithinWords 13 = .ok (.aaload, 1) := by decide +kernel
theorem d_F_replaceWithinWords_14 : decode b_F_replaceWithinWords 14 = .ok (.astore 5, 2) := by decide +kernel
theorem d_F_replaceWithinWords_16 : decode b_F_replaceWithinWords 16 = .ok (.aload_n 0, 1) := by decide +kernel
theorem d_F_replaceWithinWords_17 : decode b_F_replaceWithinWords 17 = .ok (.getfield 28, 3) := by decide +kernel
theorem d_F_replaceWithinWords_20 : decode b_F_replaceWithinWords 20 = .ok (.astore 6, 2) := by decide +kernel
theorem d_F_replaceWithinWords_22 : decode b_F_replaceWithinWords 22 = .ok (.aload_n 0, 1) := by decide +kernel
theorem d_F_replaceWithinWords_23 : decode b_F_replaceWithinWords 23 = .ok (.iload_n 1, 1) := by decide +kernel
theorem d_F_replaceWithinWords_24 : decode b_F_replaceWithinWords 24 = .ok (.invokevirtual 32, 3) := by decide +kernel
theorem d_F_replaceWithinWords_27 : decode b_F_replaceWithinWords 27 = .ok (.istore 7, 2) := by decide +kernel
theorem d_F_replaceWithinWords_29 : decode b_F_replaceWithinWords 29 = .ok (.aload_n 0, 1) := by decide +kernel
theorem d_F_replaceWithinWords_30 : decode b_F_replaceWithinWords 30 = .ok (.iload_n 3, 1) := by decide +kernel
theorem d_F_replaceWithinWords_31 : decode b_F_replaceWithinWords 31 = .ok (.invokevirtual 32, 3) := by decide +kernel
theorem d_F_replaceWithinWords_34 : decode b_F_replaceWithinWords 34 = .ok (.istore 8, 2) := by decide +kernel
theorem d_F_replaceWithinWords_36 : decode b_F_replaceWithinWords 36 = .ok (.iload 7, 2) := by decide +kernel
theorem d_F_replaceWithinWords_38 : decode b_F_replaceWithinWords 38 = .ok (.iload 8, 2) := by decide +kernel
theorem d_F_replaceWithinWords_40 : decode b_F_replaceWithinWords 40 = .ok (.ior, 1) := by decide +kernel
theorem d_F_replaceWithinWords_41 : decode b_F_replaceWithinWords 41 = .ok (.invokestatic 45, 3) := by decide +kernel
theorem d_F_replaceWithinWords_44 : decode b_F_replaceWithinWords 44 = .ok (.istore 9, 2) := by decide +kernel
theorem d_F_replaceWithinWords_46 : decode b_F_replaceWithinWords 46 = .ok (.getstatic 42, 3) := by decide +kernel
theorem d_F_replaceWithinWords_49 : decode b_F_replaceWithinWords 49 = .ok (.iload_n 2, 1) := by decide +kernel
theorem d_F_replaceWithinWords_50 : decode b_F_replaceWithinWords 50 = .ok (.laload, 1) := by decide +kernel
theorem d_F_replaceWithinWords_51 : decode b_F_replaceWithinWords 51 = .ok (.lstore 10, 2) := by decide +kernel
theorem d_F_replaceWithinWords_53 : decode b_F_replaceWithinWords 53 = .ok (.iconst 1, 1) := by decide +kernel
theorem d_F_replaceWithinWords_54 : decode b_F_replaceWithinWords 54 = .ok (.iload_n 2, 1) := by decide +kernel
theorem d_F_replaceWithinWords_55 : decode b_F_replaceWithinWords 55 = .ok (.ishl, 1) := by decide +kernel
theorem d_F_replaceWithinWords_56 : decode b_F_replaceWithinWords 56 = .ok (.istore 12, 2) := by decide +kernel
theorem d_F_replaceWithinWords_58 : decode b_F_replaceWithinWords 58 = .ok (.iconst 0, 1) := by decide +kernel
theorem d_F_replaceWithinWords_59 : decode b_F_replaceWithinWords 59 = .ok (.istore 13, 2) := by decide +kernel
theorem d_F_replaceWithinWords_61 : decode b_F_replaceWithinWords 61 = .ok (.iload 13, 2) := by decide +kernel
theorem d_F_replaceWithinWords_63 : decode b_F_replaceWithinWords 63 = .ok (.bipush 16, 2) := by decide +kernel
theorem d_F_replaceWithinWords_65 : decode b_F_replaceWithinWords 65 = .ok (.if_icmp .ge 92, 3) := by decide +kernel
theorem d_F_replaceWithinWords_68 : decode b_F_replaceWithinWords 68 = .ok (.aload 5, 2) := by decide +kernel
theorem d_F_replaceWithinWords_70 : decode b_F_replaceWithinWords 70 = .ok (.iload 13, 2) := by decide +kernel
theorem d_F_replaceWithinWords_72 : decode b_F_replaceWithinWords 72 = .ok (.iload 8, 2) := by decide +kernel
theorem d_F_replaceWithinWords_74 : decode b_F_replaceWithinWords 74 = .ok (.iand, 1) := by decide +kernel
theorem d_F_replaceWithinWords_75 : decode b_F_replaceWithinWords 75 = .ok (.laload, 1) := by decide +kernel
theorem d_F_replaceWithinWords_76 : decode b_F_replaceWithinWords 76 = .ok (.lstore 14, 2) := by decide +kernel
theorem d_F_replaceWithinWords_78 : decode b_F_replaceWithinWords 78 = .ok (.aload 4, 2) := by decide +kernel
theorem d_F_replaceWithinWords_80 : decode b_F_replaceWithinWords 80 = .ok (.iload 13, 2) := by decide +kernel
theorem d_F_replaceWithinWords_82 : decode b_F_replaceWithinWords 82 = .ok (.iload 7, 2) := by decide +kernel
theorem d_F_replaceWithinWords_84 : decode b_F_replaceWithinWords 84 = .ok (.iand, 1) := by decide +kernel
theorem d_F_replaceWithinWords_85 : decode b_F_replaceWithinWords 85 = .ok (.laload, 1) := by decide +kernel
theorem d_F_replaceWithinWords_86 : decode b_F_replaceWithinWords 86 = .ok (.lload 10, 2) := by decide +kernel
theorem d_F_replaceWithinWords_88 : decode b_F_replaceWithinWords 88 = .ok (.land, 1) := by decide +kernel
theorem d_F_replaceWithinWords_89 : decode b_F_replaceWithinWords 89 = .ok (.lstore 16, 2) := by decide +kernel
theorem d_F_replaceWithinWords_91 : decode b_F_replaceWithinWords 91 = .ok (.aload 4, 2) := by decide +kernel
theorem d_F_replaceWithinWords_93 : decode b_F_replaceWithinWords 93 = .ok (.iload 13, 2) := by decide +kernel
theorem d_F_replaceWithinWords_95 : decode b_F_replaceWithinWords 95 = .ok (.iload 7, 2) := by decide +kernel
theorem d_F_replaceWithinWords_97 : decode b_F_replaceWithinWords 97 = .ok (.iand, 1) := by decide +kernel
theorem d_F_replaceWithinWords_98 : decode b_F_replaceWithinWords 98 = .ok (.laload, 1) := by decide +kernel
theorem d_F_replaceWithinWords_99 : decode b_F_replaceWithinWords 99 = .ok (.lload 10, 2) := by decide +kernel
theorem d_F_replaceWithinWords_101 : decode b_F_replaceWithinWords 101 = .ok (.ldc2_w 36, 3) := by decide +kernel
theorem d_F_replaceWithinWords_104 : decode b_F_replaceWithinWords 104 = .ok (.lxor, 1) := by decide +kernel
theorem d_F_replaceWithinWords_105 : decode b_F_replaceWithinWords 105 = .ok (.land, 1) := by decide +kernel
theorem d_F_replaceWithinWords_106 : decode b_F_replaceWithinWords 106 = .ok (.lstore 18, 2) := by decide +kernel
theorem d_F_replaceWithinWords_108 : decode b_F_replaceWithinWords 108 = .ok (.aload 6, 2) := by decide +kernel
theorem d_F_replaceWithinWords_110 : decode b_F_replaceWithinWords 110 = .ok (.iload 13, 2) := by decide +kernel
theorem d_F_replaceWithinWords_112 : decode b_F_replaceWithinWords 112 = .ok (.lload 14, 2) := by decide +kernel
theorem d_F_replaceWithinWords_114 : decode b_F_replaceWithinWords 114 = .ok (.lload 16, 2) := by decide +kernel
theorem d_F_replaceWithinWords_116 : decode b_F_replaceWithinWords 116 = .ok (.lload 16, 2) := by decide +kernel
theorem d_F_replaceWithinWords_118 : decode b_F_replaceWithinWords 118 = .ok (.iload 12, 2) := by decide +kernel
theorem d_F_replaceWithinWords_120 : decode b_F_replaceWithinWords 120 = .ok (.lushr, 1) := by decide +kernel
theorem d_F_replaceWithinWords_121 : decode b_F_replaceWithinWords 121 = .ok (.lor, 1) := by decide +kernel
theorem d_F_replaceWithinWords_122 : decode b_F_replaceWithinWords 122 = .ok (.land, 1) := by decide +kernel
theorem d_F_replaceWithinWords_123 : decode b_F_replaceWithinWords 123 = .ok (.lload 14, 2) := by decide +kernel
theorem d_F_replaceWithinWords_125 : decode b_F_replaceWithinWords 125 = .ok (.ldc2_w 36, 3) := by decide +kernel
theorem d_F_replaceWithinWords_128 : decode b_F_replaceWithinWords 128 = .ok (.lxor, 1) := by decide +kernel
theorem d_F_replaceWithinWords_129 : decode b_F_replaceWithinWords 129 = .ok (.lload 18, 2) := by decide +kernel
theorem d_F_replaceWithinWords_131 : decode b_F_replaceWithinWords 131 = .ok (.lload 18, 2) := by decide +kernel
theorem d_F_replaceWithinWords_133 : decode b_F_replaceWithinWords 133 = .ok (.iload 12, 2) := by decide +kernel
theorem d_F_replaceWithinWords_135 : decode b_F_replaceWithinWords 135 = .ok (.lshl, 1) := by decide +kernel
theorem d_F_replaceWithinWords_136 : decode b_F_replaceWithinWords 136 = .ok (.lor, 1) := by decide +kernel
theorem d_F_replaceWithinWords_137 : decode b_F_replaceWithinWords 137 = .ok (.land, 1) := by decide +kernel
theorem d_F_replaceWithinWords_138 : decode b_F_replaceWithinWords 138 = .ok (.lor, 1) := by decide +kernel
theorem d_F_replaceWithinWords_139 : decode b_F_replaceWithinWords 139 = .ok (.lastore, 1) := by decide +kernel
theorem d_F_replaceWithinWords_140 : decode b_F_replaceWithinWords 140 = .ok (.iload 13, 2) := by decide +kernel
theorem d_F_replaceWithinWords_142 : decode b_F_replaceWithinWords 142 = .ok (.iload 9, 2) := by decide +kernel
theorem d_F_replaceWithinWords_144 : decode b_F_replaceWithinWords 144 = .ok (.ior, 1) := by decide +kernel
theorem d_F_replaceWithinWords_145 : decode b_F_replaceWithinWords 145 = .ok (.iconst 1, 1) := by decide +kernel
theorem d_F_replaceWithinWords_146 : decode b_F_replaceWithinWords 146 = .ok (.iadd, 1) := by decide +kernel
theorem d_F_replaceWithinWords_147 : decode b_F_replaceWithinWords 147 = .ok (.iload 9, 2) := by decide +kernel
theorem d_F_replaceWithinWords_149 : decode b_F_replaceWithinWords 149 = .ok (.iconst (-1), 1) := by decide +kernel
theorem d_F_replaceWithinWords_150 : decode b_F_replaceWithinWords 150 = .ok (.ixor, 1) := by decide +kernel
theorem d_F_replaceWithinWords_151 : decode b_F_replaceWithinWords 151 = .ok (.iand, 1) := by decide +kernel
theorem d_F_replaceWithinWords_152 : decode b_F_replaceWithinWords 152 = .ok (.istore 13, 2) := by decide +kernel
theorem d_F_replaceWithinWords_154 : decode b_F_replaceWithinWords 154 = .ok (.goto (-93), 3) := by decide +kernel
theorem d_F_replaceWithinWords_157 : decode b_F_replaceWithinWords 157 = .ok (.return_, 1) := by decide +kernel
theorem d_F_replaceWords_0 : decode b_F_replaceWords 0 = .ok (.aload_n 0, 1) := by decide +kernel
theorem d_F_replaceWords_1 : decode b_F_replaceWords 1 = .ok (.getfield 13, 3) := by decide +kernel
theorem d_F_replaceWords_4 : decode b_F_replaceWords 4 = .ok (.iload_n 1, 1) := by decide +kernel
theorem d_F_replaceWords_5 : decode b_F_replaceWords 5 = .ok (.aaload, 1) := by decide +kernel
theorem d_F_replaceWords_6 : decode b_F_replaceWords 6 = .ok (.astore 5, 2) := by decide +kernel
theorem d_F_replaceWords_8 : decode b_F_replaceWords 8 = .ok (.aload_n 0, 1) := by decide +kernel
theorem d_F_replaceWords_9 : decode b_F_replaceWords 9 = .ok (.getfield 13, 3) := by decide +kernel
theorem d_F_replaceWords_12 : decode b_F_replaceWords 12 = .ok (.iload_n 3, 1) := by decide +kernel
theorem d_F_replaceWords_13 : decode b_F_replaceWords 13 = .ok (.aaload, 1) := by decide +kernel
theorem d_F_replaceWords_14 : decode b_F_replaceWords 14 = .ok (.astore 6, 2) := by decide +kernel
theorem d_F_replaceWords_16 : decode b_F_replaceWords 16 = .ok (.aload_n 0, 1) := by decide +kernel
theorem d_F_replaceWords_17 : decode b_F_replaceWords 17 = .ok (.getfield 28, 3) := by decide +kernel
theorem d_F_replaceWords_20 : decode b_F_replaceWords 20 = .ok (.astore 7, 2) := by decide +kernel
theorem d_F_replaceWords_22 : decode b_F_replaceWords 22 = .ok (.aload_n 0, 1) := by decide +kernel
theorem d_F_replaceWords_23 : decode b_F_replaceWords 23 = .ok (.iload_n 1, 1) := by decide +kernel
theorem d_F_replaceWords_24 : decode b_F_replaceWords 24 = .ok (.invokevirtual 32, 3) := by decide +kernel
theorem d_F_replaceWords_27 : decode b_F_replaceWords 27 = .ok (.iload_n 2, 1) := by decide +kernel
theorem d_F_replaceWords_28 : decode b_F_replaceWords 28 = .ok (.iconst (-1), 1) := by decide +kernel
theorem d_F_replaceWords_29 : decode b_F_replaceWords 29 = .ok (.ixor, 1) := by decide +kernel
theorem d_F_replaceWords_30 : decode b_F_replaceWords 30 = .ok (.iand, 1) := by decide +kernel
theorem d_F_replaceWords_31 : decode b_F_replaceWords 31 = .ok (.istore 8, 2) := by decide +kernel
theorem d_F_replaceWords_33 : decode b_F_replaceWords 33 = .ok (.aload_n 0, 1) := by decide +kernel
theorem d_F_replaceWords_34 : decode b_F_replaceWords 34 = .ok (.iload_n 3, 1) := by decide +kernel
theorem d_F_replaceWords_35 : decode b_F_replaceWords 35 = .ok (.invokevirtual 32, 3) := by decide +kernel
theorem d_F_replaceWords_38 : decode b_F_replaceWords 38 = .ok (.istore 9, 2) := by decide +kernel
theorem d_F_replaceWords_40 : decode b_F_replaceWords 40 = .ok (.iload 4, 2) := by decide +kernel
theorem d_F_replaceWords_42 : decode b_F_replaceWords 42 = .ok (.bipush 6, 2) := by decide +kernel
theorem d_F_replaceWords_44 : decode b_F_replaceWords 44 = .ok (.ishr, 1) := by decide +kernel
theorem d_F_replaceWords_45 : decode b_F_replaceWords 45 = .ok (.invokestatic 45, 3) := by decide +kernel
theorem d_F_replaceWords_48 : decode b_F_replaceWords 48 = .ok (.istore 10, 2) := by decide +kernel
theorem d_F_replaceWords_50 : decode b_F_replaceWords 50 = .ok (.iconst 0, 1) := by decide +kernel
theorem d_F_replaceWords_51 : decode b_F_replaceWords 51 = .ok (.istore 11, 2) := by decide +kernel
theorem d_F_replaceWords_53 : decode b_F_replaceWords 53 = .ok (.iload 11, 2) := by decide +kernel
theorem d_F_replaceWords_55 : decode b_F_replaceWords 55 = .ok (.bipush 16, 2) := by decide +kernel
theorem d_F_replaceWords_57 : decode b_F_replaceWords 57 = .ok (.if_icmp .ge 64, 3) := by decide +kernel
theorem d_F_replaceWords_60 : decode b_F_replaceWords 60 = .ok (.aload 6, 2) := by decide +kernel
theorem d_F_replaceWords_62 : decode b_F_replaceWords 62 = .ok (.iload 11, 2) := by decide +kernel
theorem d_F_replaceWords_64 : decode b_F_replaceWords 64 = .ok (.iload 9, 2) := by decide +kernel
theorem d_F_replaceWords_66 : decode b_F_replaceWords 66 = .ok (.iand, 1) := by decide +kernel
theorem d_F_replaceWords_67 : decode b_F_replaceWords 67 = .ok (.laload, 1) := by decide +kernel
theorem d_F_replaceWords_68 : decode b_F_replaceWords 68 = .ok (.lstore 12, 2) := by decide +kernel
theorem d_F_replaceWords_70 : decode b_F_replaceWords 70 = .ok (.aload 7, 2) := by decide +kernel
theorem d_F_replaceWords_72 : decode b_F_replaceWords 72 = .ok (.iload 11, 2) := by decide +kernel
theorem d_F_replaceWords_74 : decode b_F_replaceWords 74 = .ok (.lload 12, 2) := by decide +kernel
theorem d_F_replaceWords_76 : decode b_F_replaceWords 76 = .ok (.aload 5, 2) := by decide +kernel
theorem d_F_replaceWords_78 : decode b_F_replaceWords 78 = .ok (.iload 11, 2) := by decide +kernel
theorem d_F_replaceWords_80 : decode b_F_replaceWords 80 = .ok (.iload 8, 2) := by decide +kernel
theorem d_F_replaceWords_82 : decode b_F_replaceWords 82 = .ok (.iand, 1) := by decide +kernel
theorem d_F_replaceWords_83 : decode b_F_replaceWords 83 = .ok (.iload_n 2, 1) := by decide +kernel
theorem d_F_replaceWords_84 : decode b_F_replaceWords 84 = .ok (.ior, 1) := by decide +kernel
theorem d_F_replaceWords_85 : decode b_F_replaceWords 85 = .ok (.laload, 1) := by decide +kernel
theorem d_F_replaceWords_86 : decode b_F_replaceWords 86 = .ok (.land, 1) := by decide +kernel
theorem d_F_replaceWords_87 : decode b_F_replaceWords 87 = .ok (.lload 12, 2) := by decide +kernel
theorem d_F_replaceWords_89 : decode b_F_replaceWords 89 = .ok (.ldc2_w 36, 3) := by decide +kernel
theorem d_F_replaceWords_92 : decode b_F_replaceWords 92 = .ok (.lxor, 1) := by decide +kernel
theorem d_F_replaceWords_93 : decode b_F_replaceWords 93 = .ok (.aload 5, 2) := by decide +kernel
theorem d_F_replaceWords_95 : decode b_F_replaceWords 95 = .ok (.iload 11, 2) := by decide +kernel
theorem d_F_replaceWords_97 : decode b_F_replaceWords 97 = .ok (.iload 8, 2) := by decide +kernel
theorem d_F_replaceWords_99 : decode b_F_replaceWords 99 = .ok (.iand, 1) := by decide +kernel
theorem d_F_replaceWords_100 : decode b_F_replaceWords 100 = .ok (.laload, 1) := by decide +kernel
theorem d_F_replaceWords_101 : decode b_F_replaceWords 101 = .ok (.land, 1) := by decide +kernel
theorem d_F_replaceWords_102 : decode b_F_replaceWords 102 = .ok (.lor, 1) := by decide +kernel
theorem d_F_replaceWords_103 : decode b_F_replaceWords 103 = .ok (.lastore, 1) := by decide +kernel
theorem d_F_replaceWords_104 : decode b_F_replaceWords 104 = .ok (.iload 11, 2) := by decide +kernel
theorem d_F_replaceWords_106 : decode b_F_replaceWords 106 = .ok (.iload 10, 2) := by decide +kernel
theorem d_F_replaceWords_108 : decode b_F_replaceWords 108 = .ok (.ior, 1) := by decide +kernel
theorem d_F_replaceWords_109 : decode b_F_replaceWords 109 = .ok (.iconst 1, 1) := by decide +kernel
theorem d_F_replaceWords_110 : decode b_F_replaceWords 110 = .ok (.iadd, 1) := by decide +kernel
theorem d_F_replaceWords_111 : decode b_F_replaceWords 111 = .ok (.iload 10, 2) := by decide +kernel
theorem d_F_replaceWords_113 : decode b_F_replaceWords 113 = .ok (.iconst (-1), 1) := by decide +kernel
theorem d_F_replaceWords_114 : decode b_F_replaceWords 114 = .ok (.ixor, 1) := by decide +kernel
theorem d_F_replaceWords_115 : decode b_F_replaceWords 115 = .ok (.iand, 1) := by decide +kernel
theorem d_F_replaceWords_116 : decode b_F_replaceWords 116 = .ok (.istore 11, 2) := by decide +kernel
theorem d_F_replaceWords_118 : decode b_F_replaceWords 118 = .ok (.goto (-65), 3) := by decide +kernel
theorem d_F_replaceWords_121 : decode b_F_replaceWords 121 = .ok (.return_, 1) := by decide +kernel
theorem d_F_project_0 : decode b_F_project 0 = .ok (.aload_n 0, 1) := by decide +kernel
theorem d_F_project_1 : decode b_F_project 1 = .ok (.getfield 16, 3) := by decide +kernel
theorem d_F_project_4 : decode b_F_project 4 = .ok (.iload_n 2, 1) := by decide +kernel
theorem d_F_project_5 : decode b_F_project 5 = .ok (.iaload, 1) := by decide +kernel
theorem d_F_project_6 : decode b_F_project 6 = .ok (.aload_n 0, 1) := by decide +kernel
theorem d_F_project_7 : decode b_F_project 7 = .ok (.getfield 16, 3) := by decide +kernel
theorem d_F_project_10 : decode b_F_project 10 = .ok (.iload_n 3, 1) := by decide +kernel
theorem d_F_project_11 : decode b_F_project 11 = .ok (.iaload, 1) := by decide +kernel
theorem d_F_project_12 : decode b_F_project 12 = .ok (.ior, 1) := by decide +kernel
theorem d_F_project_13 : decode b_F_project 13 = .ok (.istore 6, 2) := by decide +kernel
theorem d_F_project_15 : decode b_F_project 15 = .ok (.iload 6, 2) := by decide +kernel
theorem d_F_project_17 : decode b_F_project 17 = .ok (.iload 4, 2) := by decide +kernel
theorem d_F_project_19 : decode b_F_project 19 = .ok (.iand, 1) := by decide +kernel
theorem d_F_project_20 : decode b_F_project 20 = .ok (.istore 7, 2) := by decide +kernel
theorem d_F_project_22 : decode b_F_project 22 = .ok (.aload_n 0, 1) := by decide +kernel
theorem d_F_project_23 : decode b_F_project 23 = .ok (.getfield 28, 3) := by decide +kernel
theorem d_F_project_26 : decode b_F_project 26 = .ok (.astore 8, 2) := by decide +kernel
theorem d_F_project_28 : decode b_F_project 28 = .ok (.iload 5, 2) := by decide +kernel
theorem d_F_project_30 : decode b_F_project 30 = .ok (.ifCond .eq 9, 3) := by decide +kernel
theorem d_F_project_33 : decode b_F_project 33 = .ok (.ldc2_w 36, 3) := by decide +kernel
theorem d_F_project_36 : decode b_F_project 36 = .ok (.goto 4, 3) := by decide +kernel
theorem d_F_project_39 : decode b_F_project 39 = .ok (.lconst 0, 1) := by decide +kernel
theorem d_F_project_40 : decode b_F_project 40 = .ok (.lstore 9, 2) := by decide +kernel
theorem d_F_project_42 : decode b_F_project 42 = .ok (.iload 6, 2) := by decide +kernel
theorem d_F_project_44 : decode b_F_project 44 = .ok (.iload 4, 2) := by decide +kernel
theorem d_F_project_46 : decode b_F_project 46 = .ok (.iconst (-1), 1) := by decide +kernel
theorem d_F_project_47 : decode b_F_project 47 = .ok (.ixor, 1) := by decide +kernel
theorem d_F_project_48 : decode b_F_project 48 = .ok (.iand, 1) := by decide +kernel
theorem d_F_project_49 : decode b_F_project 49 = .ok (.bipush 6, 2) := by decide +kernel
theorem d_F_project_51 : decode b_F_project 51 = .ok (.ishr, 1) := by decide +kernel
theorem d_F_project_52 : decode b_F_project 52 = .ok (.invokestatic 45, 3) := by decide +kernel
theorem d_F_project_55 : decode b_F_project 55 = .ok (.istore 11, 2) := by decide +kernel
theorem d_F_project_57 : decode b_F_project 57 = .ok (.iconst 0, 1) := by decide +kernel
theorem d_F_project_58 : decode b_F_project 58 = .ok (.istore 12, 2) := by decide +kernel
theorem d_F_project_60 : decode b_F_project 60 = .ok (.iload 12, 2) := by decide +kernel
theorem d_F_project_62 : decode b_F_project 62 = .ok (.bipush 16, 2) := by decide +kernel
theorem d_F_project_64 : decode b_F_project 64 = .ok (.if_icmp .ge 52, 3) := by decide +kernel
theorem d_F_project_67 : decode b_F_project 67 = .ok (.aload_n 0, 1) := by decide +kernel
theorem d_F_project_68 : decode b_F_project 68 = .ok (.iload_n 2, 1) := by decide +kernel
theorem d_F_project_69 : decode b_F_project 69 = .ok (.iload_n 3, 1) := by decide +kernel
theorem d_F_project_70 : decode b_F_project 70 = .ok (.iload 12, 2) := by decide +kernel
theorem d_F_project_72 : decode b_F_project 72 = .ok (.iload 7, 2) := by decide +kernel
theorem d_F_project_74 : decode b_F_project 74 = .ok (.bipush 6, 2) := by decide +kernel
theorem d_F_project_76 : decode b_F_project 76 = .ok (.ishr, 1) := by decide +kernel
theorem d_F_project_77 : decode b_F_project 77 = .ok (.lload 9, 2) := by decide +kernel
theorem d_F_project_79 : decode b_F_project 79 = .ok (.invokevirtual 68, 3) := by decide +kernel
theorem d_F_project_82 : decode b_F_project 82 = .ok (.lstore 13, 2) := by decide +kernel
theorem d_F_project_84 : decode b_F_project 84 = .ok (.aload 8, 2) := by decide +kernel
theorem d_F_project_86 : decode b_F_project 86 = .ok (.iload 12, 2) := by decide +kernel
theorem d_F_project_88 : decode b_F_project 88 = .ok (.lload 13, 2) := by decide +kernel
theorem d_F_project_90 : decode b_F_project 90 = .ok (.iload 7, 2) := by decide +kernel
theorem d_F_project_92 : decode b_F_project 92 = .ok (.invokestatic 72, 3) := by decide +kernel
theorem d_F_project_95 : decode b_F_project 95 = .ok (.lload 9, 2) := by decide +kernel
theorem d_F_project_97 : decode b_F_project 97 = .ok (.lxor, 1) := by decide +kernel
theorem d_F_project_98 : decode b_F_project 98 = .ok (.lastore, 1) := by decide +kernel
theorem d_F_project_99 : decode b_F_project 99 = .ok (.iload 12, 2) := by decide +kernel
theorem d_F_project_101 : decode b_F_project 101 = .ok (.iload 11, 2) := by decide +kernel
theorem d_F_project_103 : decode b_F_project 103 = .ok (.ior, 1) := by decide +kernel
theorem d_F_project_104 : decode b_F_project 104 = .ok (.iconst 1, 1) := by decide +kernel
theorem d_F_project_105 : decode b_F_project 105 = .ok (.iadd, 1) := by decide +kernel
theorem d_F_project_106 : decode b_F_project 106 = .ok (.iload 11, 2) := by decide +kernel
theorem d_F_project_108 : decode b_F_project 108 = .ok (.iconst (-1), 1) := by decide +kernel
theorem d_F_project_109 : decode b_F_project 109 = .ok (.ixor, 1) := by decide +kernel
theorem d_F_project_110 : decode b_F_project 110 = .ok (.iand, 1) := by decide +kernel
theorem d_F_project_111 : decode b_F_project 111 = .ok (.istore 12, 2) := by decide +kernel
theorem d_F_project_113 : decode b_F_project 113 = .ok (.goto (-53), 3) := by decide +kernel
theorem d_F_project_116 : decode b_F_project 116 = .ok (.aload_n 0, 1) := by decide +kernel
theorem d_F_project_117 : decode b_F_project 117 = .ok (.iload_n 1, 1) := by decide +kernel
theorem d_F_project_118 : decode b_F_project 118 = .ok (.iload 6, 2) := by decide +kernel
theorem d_F_project_120 : decode b_F_project 120 = .ok (.iload 4, 2) := by decide +kernel
theorem d_F_project_122 : decode b_F_project 122 = .ok (.iconst (-1), 1) := by decide +kernel
theorem d_F_project_123 : decode b_F_project 123 = .ok (.ixor, 1) := by decide +kernel
theorem d_F_project_124 : decode b_F_project 124 = .ok (.iand, 1) := by decide +kernel
theorem d_F_project_125 : decode b_F_project 125 = .ok (.invokevirtual 48, 3) := by decide +kernel
theorem d_F_project_128 : decode b_F_project 128 = .ok (.return_, 1) := by decide +kernel
theorem d_F_someWords_0 : decode b_F_someWords 0 = .ok (.aload_n 0, 1) := by decide +kernel
theorem d_F_someWords_1 : decode b_F_someWords 1 = .ok (.getfield 13, 3) := by decide +kernel
theorem d_F_someWords_4 : decode b_F_someWords 4 = .ok (.iload_n 1, 1) := by decide +kernel
theorem d_F_someWords_5 : decode b_F_someWords 5 = .ok (.aaload, 1) := by decide +kernel
theorem d_F_someWords_6 : decode b_F_someWords 6 = .ok (.astore 7, 2) := by decide +kernel
theorem d_F_someWords_8 : decode b_F_someWords 8 = .ok (.aload_n 0, 1) := by decide +kernel
theorem d_F_someWords_9 : decode b_F_someWords 9 = .ok (.getfield 13, 3) := by decide +kernel
theorem d_F_someWords_12 : decode b_F_someWords 12 = .ok (.iload_n 2, 1) := by decide +kernel
theorem d_F_someWords_13 : decode b_F_someWords 13 = .ok (.aaload, 1) := by decide +kernel
theorem d_F_someWords_14 : decode b_F_someWords 14 = .ok (.astore 8, 2) := by decide +kernel
theorem d_F_someWords_16 : decode b_F_someWords 16 = .ok (.aload_n 0, 1) := by decide +kernel
theorem d_F_someWords_17 : decode b_F_someWords 17 = .ok (.iload_n 1, 1) := by decide +kernel
theorem d_F_someWords_18 : decode b_F_someWords 18 = .ok (.invokevirtual 32, 3) := by decide +kernel
theorem d_F_someWords_21 : decode b_F_someWords 21 = .ok (.istore 9, 2) := by decide +kernel
theorem d_F_someWords_23 : decode b_F_someWords 23 = .ok (.aload_n 0, 1) := by decide +kernel
theorem d_F_someWords_24 : decode b_F_someWords 24 = .ok (.iload_n 2, 1) := by decide +kernel
theorem d_F_someWords_25 : decode b_F_someWords 25 = .ok (.invokevirtual 32, 3) := by decide +kernel
theorem d_F_someWords_28 : decode b_F_someWords 28 = .ok (.istore 10, 2) := by decide +kernel
theorem d_F_someWords_30 : decode b_F_someWords 30 = .ok (.iload 4, 2) := by decide +kernel
theorem d_F_someWords_32 : decode b_F_someWords 32 = .ok (.invokestatic 45, 3) := by decide +kernel
theorem d_F_someWords_35 : decode b_F_someWords 35 = .ok (.istore 11, 2) := by decide +kernel
theorem d_F_someWords_37 : decode b_F_someWords 37 = .ok (.lconst 0, 1) := by decide +kernel
theorem d_F_someWords_38 : decode b_F_someWords 38 = .ok (.lstore 12, 2) := by decide +kernel
theorem d_F_someWords_40 : decode b_F_someWords 40 = .ok (.iconst 0, 1) := by decide +kernel
theorem d_F_someWords_41 : decode b_F_someWords 41 = .ok (.istore 14, 2) := by decide +kernel
theorem d_F_someWords_43 : decode b_F_someWords 43 = .ok (.iload 14, 2) := by decide +kernel
theorem d_F_someWords_45 : decode b_F_someWords 45 = .ok (.bipush 16, 2) := by decide +kernel
theorem d_F_someWords_47 : decode b_F_someWords 47 = .ok (.if_icmp .ge 52, 3) := by decide +kernel
theorem d_F_someWords_50 : decode b_F_someWords 50 = .ok (.lload 12, 2) := by decide +kernel
theorem d_F_someWords_52 : decode b_F_someWords 52 = .ok (.aload 7, 2) := by decide +kernel
theorem d_F_someWords_54 : decode b_F_someWords 54 = .ok (.iload_n 3, 1) := by decide +kernel
theorem d_F_someWords_55 : decode b_F_someWords 55 = .ok (.iload 14, 2) := by decide +kernel
theorem d_F_someWords_57 : decode b_F_someWords 57 = .ok (.ior, 1) := by decide +kernel
theorem d_F_someWords_58 : decode b_F_someWords 58 = .ok (.iload 9, 2) := by decide +kernel
theorem d_F_someWords_60 : decode b_F_someWords 60 = .ok (.iand, 1) := by decide +kernel
theorem d_F_someWords_61 : decode b_F_someWords 61 = .ok (.laload, 1) := by decide +kernel
theorem d_F_someWords_62 : decode b_F_someWords 62 = .ok (.lload 5, 2) := by decide +kernel
theorem d_F_someWords_64 : decode b_F_someWords 64 = .ok (.lxor, 1) := by decide +kernel
theorem d_F_someWords_65 : decode b_F_someWords 65 = .ok (.aload 8, 2) := by decide +kernel
theorem d_F_someWords_67 : decode b_F_someWords 67 = .ok (.iload_n 3, 1) := by decide +kernel
theorem d_F_someWords_68 : decode b_F_someWords 68 = .ok (.iload 14, 2) := by decide +kernel
theorem d_F_someWords_70 : decode b_F_someWords 70 = .ok (.ior, 1) := by decide +kernel
theorem d_F_someWords_71 : decode b_F_someWords 71 = .ok (.iload 10, 2) := by decide +kernel
theorem d_F_someWords_73 : decode b_F_someWords 73 = .ok (.iand, 1) := by decide +kernel
theorem d_F_someWords_74 : decode b_F_someWords 74 = .ok (.laload, 1) := by decide +kernel
theorem d_F_someWords_75 : decode b_F_someWords 75 = .ok (.lload 5, 2) := by decide +kernel
theorem d_F_someWords_77 : decode b_F_someWords 77 = .ok (.lxor, 1) := by decide +kernel
theorem d_F_someWords_78 : decode b_F_someWords 78 = .ok (.land, 1) := by decide +kernel
theorem d_F_someWords_79 : decode b_F_someWords 79 = .ok (.lor, 1) := by decide +kernel
theorem d_F_someWords_80 : decode b_F_someWords 80 = .ok (.lstore 12, 2) := by decide +kernel
theorem d_F_someWords_82 : decode b_F_someWords 82 = .ok (.iload 14, 2) := by decide +kernel
theorem d_F_someWords_84 : decode b_F_someWords 84 = .ok (.iload 11, 2) := by decide +kernel
theorem d_F_someWords_86 : decode b_F_someWords 86 = .ok (.ior, 1) := by decide +kernel
theorem d_F_someWords_87 : decode b_F_someWords 87 = .ok (.iconst 1, 1) := by decide +kernel
theorem d_F_someWords_88 : decode b_F_someWords 88 = .ok (.iadd, 1) := by decide +kernel
theorem d_F_someWords_89 : decode b_F_someWords 89 = .ok (.iload 11, 2) := by decide +kernel
theorem d_F_someWords_91 : decode b_F_someWords 91 = .ok (.iconst (-1), 1) := by decide +kernel
theorem d_F_someWords_92 : decode b_F_someWords 92 = .ok (.ixor, 1) := by decide +kernel
theorem d_F_someWords_93 : decode b_F_someWords 93 = .ok (.iand, 1) := by decide +kernel
theorem d_F_someWords_94 : decode b_F_someWords 94 = .ok (.istore 14, 2) := by decide +kernel
theorem d_F_someWords_96 : decode b_F_someWords 96 = .ok (.goto (-53), 3) := by decide +kernel
theorem d_F_someWords_99 : decode b_F_someWords 99 = .ok (.lload 12, 2) := by decide +kernel
theorem d_F_someWords_101 : decode b_F_someWords 101 = .ok (.lreturn, 1) := by decide +kernel
theorem d_F_someWithin_0 : decode b_F_someWithin 0 = .ok (.lload_n 0, 1) := by decide +kernel
theorem d_F_someWithin_1 : decode b_F_someWithin 1 = .ok (.lstore_n 3, 1) := by decide +kernel
theorem d_F_someWithin_2 : decode b_F_someWithin 2 = .ok (.iload_n 2, 1) := by decide +kernel
theorem d_F_someWithin_3 : decode b_F_someWithin 3 = .ok (.bipush 63, 2) := by decide +kernel
theorem d_F_someWithin_5 : decode b_F_someWithin 5 = .ok (.iand, 1) := by decide +kernel
theorem d_F_someWithin_6 : decode b_F_someWithin 6 = .ok (.istore 5, 2) := by decide +kernel
theorem d_F_someWithin_8 : decode b_F_someWithin 8 = .ok (.iload 5, 2) := by decide +kernel
theorem d_F_someWithin_10 : decode b_F_someWithin 10 = .ok (.ifCond .eq 56, 3) := by decide +kernel
theorem d_F_someWithin_13 : decode b_F_someWithin 13 = .ok (.iload 5, 2) := by decide +kernel
theorem d_F_someWithin_15 : decode b_F_someWithin 15 = .ok (.invokestatic 76, 3) := by decide +kernel
theorem d_F_someWithin_18 : decode b_F_someWithin 18 = .ok (.istore 6, 2) := by decide +kernel
theorem d_F_someWithin_20 : decode b_F_someWithin 20 = .ok (.iconst 1, 1) := by decide +kernel
theorem d_F_someWithin_21 : decode b_F_someWithin 21 = .ok (.iload 6, 2) := by decide +kernel
theorem d_F_someWithin_23 : decode b_F_someWithin 23 = .ok (.ishl, 1) := by decide +kernel
theorem d_F_someWithin_24 : decode b_F_someWithin 24 = .ok (.istore 7, 2) := by decide +kernel
theorem d_F_someWithin_26 : decode b_F_someWithin 26 = .ok (.lload_n 3, 1) := by decide +kernel
theorem d_F_someWithin_27 : decode b_F_someWithin 27 = .ok (.lload_n 3, 1) := by decide +kernel
theorem d_F_someWithin_28 : decode b_F_someWithin 28 = .ok (.iload 7, 2) := by decide +kernel
theorem d_F_someWithin_30 : decode b_F_someWithin 30 = .ok (.lushr, 1) := by decide +kernel
theorem d_F_someWithin_31 : decode b_F_someWithin 31 = .ok (.lor, 1) := by decide +kernel
theorem d_F_someWithin_32 : decode b_F_someWithin 32 = .ok (.getstatic 42, 3) := by decide +kernel
theorem d_F_someWithin_35 : decode b_F_someWithin 35 = .ok (.iload 6, 2) := by decide +kernel
theorem d_F_someWithin_37 : decode b_F_someWithin 37 = .ok (.laload, 1) := by decide +kernel
theorem d_F_someWithin_38 : decode b_F_someWithin 38 = .ok (.ldc2_w 36, 3) := by decide +kernel
theorem d_F_someWithin_41 : decode b_F_someWithin 41 = .ok (.lxor, 1) := by decide +kernel
theorem d_F_someWithin_42 : decode b_F_someWithin 42 = .ok (.land, 1) := by decide +kernel
theorem d_F_someWithin_43 : decode b_F_someWithin 43 = .ok (.lstore 8, 2) := by decide +kernel
theorem d_F_someWithin_45 : decode b_F_someWithin 45 = .ok (.lload 8, 2) := by decide +kernel
theorem d_F_someWithin_47 : decode b_F_someWithin 47 = .ok (.lload 8, 2) := by decide +kernel
theorem d_F_someWithin_49 : decode b_F_someWithin 49 = .ok (.iload 7, 2) := by decide +kernel
theorem d_F_someWithin_51 : decode b_F_someWithin 51 = .ok (.lshl, 1) := by decide +kernel
theorem d_F_someWithin_52 : decode b_F_someWithin 52 = .ok (.lor, 1) := by decide +kernel
theorem d_F_someWithin_53 : decode b_F_someWithin 53 = .ok (.lstore_n 3, 1) := by decide +kernel
theorem d_F_someWithin_54 : decode b_F_someWithin 54 = .ok (.iload 5, 2) := by decide +kernel
theorem d_F_someWithin_56 : decode b_F_someWithin 56 = .ok (.iload 5, 2) := by decide +kernel
theorem d_F_someWithin_58 : decode b_F_someWithin 58 = .ok (.iconst 1, 1) := by decide +kernel
theorem d_F_someWithin_59 : decode b_F_someWithin 59 = .ok (.isub, 1) := by decide +kernel
theorem d_F_someWithin_60 : decode b_F_someWithin 60 = .ok (.iand, 1) := by decide +kernel
theorem d_F_someWithin_61 : decode b_F_someWithin 61 = .ok (.istore 5, 2) := by decide +kernel
theorem d_F_someWithin_63 : decode b_F_someWithin 63 = .ok (.goto (-55), 3) := by decide +kernel
theorem d_F_someWithin_66 : decode b_F_someWithin 66 = .ok (.lload_n 3, 1) := by decide +kernel
theorem d_F_someWithin_67 : decode b_F_someWithin 67 = .ok (.lreturn, 1) := by decide +kernel
theorem d_F_ones_0 : decode b_F_ones 0 = .ok (.aload_n 0, 1) := by decide +kernel
theorem d_F_ones_1 : decode b_F_ones 1 = .ok (.getfield 13, 3) := by decide +kernel
theorem d_F_ones_4 : decode b_F_ones 4 = .ok (.iload_n 1, 1) := by decide +kernel
theorem d_F_ones_5 : decode b_F_ones 5 = .ok (.aaload, 1) := by decide +kernel
theorem d_F_ones_6 : decode b_F_ones 6 = .ok (.astore_n 2, 1) := by decide +kernel
theorem d_F_ones_7 : decode b_F_ones 7 = .ok (.aload_n 0, 1) := by decide +kernel
theorem d_F_ones_8 : decode b_F_ones 8 = .ok (.iload_n 1, 1) := by decide +kernel
theorem d_F_ones_9 : decode b_F_ones 9 = .ok (.invokevirtual 32, 3) := by decide +kernel
theorem d_F_ones_12 : decode b_F_ones 12 = .ok (.invokestatic 45, 3) := by decide +kernel
theorem d_F_ones_15 : decode b_F_ones 15 = .ok (.istore_n 3, 1) := by decide +kernel
theorem d_F_ones_16 : decode b_F_ones 16 = .ok (.iconst 0, 1) := by decide +kernel
theorem d_F_ones_17 : decode b_F_ones 17 = .ok (.istore 4, 2) := by decide +kernel
theorem d_F_ones_19 : decode b_F_ones 19 = .ok (.iconst 0, 1) := by decide +kernel
theorem d_F_ones_20 : decode b_F_ones 20 = .ok (.istore 5, 2) := by decide +kernel
theorem d_F_ones_22 : decode b_F_ones 22 = .ok (.iload 5, 2) := by decide +kernel
theorem d_F_ones_24 : decode b_F_ones 24 = .ok (.bipush 16, 2) := by decide +kernel
theorem d_F_ones_26 : decode b_F_ones 26 = .ok (.if_icmp .ge 30, 3) := by decide +kernel
theorem d_F_ones_29 : decode b_F_ones 29 = .ok (.iload 4, 2) := by decide +kernel
theorem d_F_ones_31 : decode b_F_ones 31 = .ok (.aload_n 2, 1) := by decide +kernel
theorem d_F_ones_32 : decode b_F_ones 32 = .ok (.iload 5, 2) := by decide +kernel
theorem d_F_ones_34 : decode b_F_ones 34 = .ok (.laload, 1) := by decide +kernel
theorem d_F_ones_35 : decode b_F_ones 35 = .ok (.invokestatic 81, 3) := by decide +kernel
theorem d_F_ones_38 : decode b_F_ones 38 = .ok (.iadd, 1) := by decide +kernel
theorem d_F_ones_39 : decode b_F_ones 39 = .ok (.istore 4, 2) := by decide +kernel
theorem d_F_ones_41 : decode b_F_ones 41 = .ok (.iload 5, 2) := by decide +kernel
theorem d_F_ones_43 : decode b_F_ones 43 = .ok (.iload_n 3, 1) := by decide +kernel
theorem d_F_ones_44 : decode b_F_ones 44 = .ok (.ior, 1) := by decide +kernel
theorem d_F_ones_45 : decode b_F_ones 45 = .ok (.iconst 1, 1) := by decide +kernel
theorem d_F_ones_46 : decode b_F_ones 46 = .ok (.iadd, 1) := by decide +kernel
theorem d_F_ones_47 : decode b_F_ones 47 = .ok (.iload_n 3, 1) := by decide +kernel
theorem d_F_ones_48 : decode b_F_ones 48 = .ok (.iconst (-1), 1) := by decide +kernel
theorem d_F_ones_49 : decode b_F_ones 49 = .ok (.ixor, 1) := by decide +kernel
theorem d_F_ones_50 : decode b_F_ones 50 = .ok (.iand, 1) := by decide +kernel
theorem d_F_ones_51 : decode b_F_ones 51 = .ok (.istore 5, 2) := by decide +kernel
theorem d_F_ones_53 : decode b_F_ones 53 = .ok (.goto (-31), 3) := by decide +kernel
theorem d_F_ones_56 : decode b_F_ones 56 = .ok (.iload 4, 2) := by decide +kernel
theorem d_F_ones_58 : decode b_F_ones 58 = .ok (.iload_n 3, 1) := by decide +kernel
theorem d_F_ones_59 : decode b_F_ones 59 = .ok (.invokestatic 87, 3) := by decide +kernel
theorem d_F_ones_62 : decode b_F_ones 62 = .ok (.ishl, 1) := by decide +kernel
theorem d_F_ones_63 : decode b_F_ones 63 = .ok (.ireturn, 1) := by decide +kernel
theorem d_F_firstOne_0 : decode b_F_firstOne 0 = .ok (.aload_n 0, 1) := by decide +kernel
theorem d_F_firstOne_1 : decode b_F_firstOne 1 = .ok (.getfield 13, 3) := by decide +kernel
theorem d_F_firstOne_4 : decode b_F_firstOne 4 = .ok (.iload_n 1, 1) := by decide +kernel
theorem d_F_firstOne_5 : decode b_F_firstOne 5 = .ok (.aaload, 1) := by decide +kernel
theorem d_F_firstOne_6 : decode b_F_firstOne 6 = .ok (.astore_n 2, 1) := by decide +kernel
theorem d_F_firstOne_7 : decode b_F_firstOne 7 = .ok (.aload_n 0, 1) := by decide +kernel
theorem d_F_firstOne_8 : decode b_F_firstOne 8 = .ok (.iload_n 1, 1) := by decide +kernel
theorem d_F_firstOne_9 : decode b_F_firstOne 9 = .ok (.invokevirtual 32, 3) := by decide +kernel
theorem d_F_firstOne_12 : decode b_F_firstOne 12 = .ok (.invokestatic 45, 3) := by decide +kernel
theorem d_F_firstOne_15 : decode b_F_firstOne 15 = .ok (.istore_n 3, 1) := by decide +kernel
theorem d_F_firstOne_16 : decode b_F_firstOne 16 = .ok (.iconst 0, 1) := by decide +kernel
theorem d_F_firstOne_17 : decode b_F_firstOne 17 = .ok (.istore 4, 2) := by decide +kernel
theorem d_F_firstOne_19 : decode b_F_firstOne 19 = .ok (.iload 4, 2) := by decide +kernel
theorem d_F_firstOne_21 : decode b_F_firstOne 21 = .ok (.bipush 16, 2) := by decide +kernel
theorem d_F_firstOne_23 : decode b_F_firstOne 23 = .ok (.if_icmp .ge 41, 3) := by decide +kernel
theorem d_F_firstOne_26 : decode b_F_firstOne 26 = .ok (.aload_n 2, 1) := by decide +kernel
theorem d_F_firstOne_27 : decode b_F_firstOne 27 = .ok (.iload 4, 2) := by decide +kernel
theorem d_F_firstOne_29 : decode b_F_firstOne 29 = .ok (.laload, 1) := by decide +kernel
theorem d_F_firstOne_30 : decode b_F_firstOne 30 = .ok (.lconst 0, 1) := by decide +kernel
theorem d_F_firstOne_31 : decode b_F_firstOne 31 = .ok (.lcmp, 1) := by decide +kernel
theorem d_F_firstOne_32 : decode b_F_firstOne 32 = .ok (.ifCond .eq 17, 3) := by decide +kernel
theorem d_F_firstOne_35 : decode b_F_firstOne 35 = .ok (.iload 4, 2) := by decide +kernel
theorem d_F_firstOne_37 : decode b_F_firstOne 37 = .ok (.bipush 6, 2) := by decide +kernel
theorem d_F_firstOne_39 : decode b_F_firstOne 39 = .ok (.ishl, 1) := by decide +kernel
theorem d_F_firstOne_40 : decode b_F_firstOne 40 = .ok (.aload_n 2, 1) := by decide +kernel
theorem d_F_firstOne_41 : decode b_F_firstOne 41 = .ok (.iload 4, 2) := by decide +kernel
theorem d_F_firstOne_43 : decode b_F_firstOne 43 = .ok (.laload, 1) := by decide +kernel
theorem d_F_firstOne_44 : decode b_F_firstOne 44 = .ok (.invokestatic 89, 3) := by decide +kernel
theorem d_F_firstOne_47 : decode b_F_firstOne 47 = .ok (.iadd, 1) := by decide +kernel
theorem d_F_firstOne_48 : decode b_F_firstOne 48 = .ok (.ireturn, 1) := by decide +kernel
theorem d_F_firstOne_49 : decode b_F_firstOne 49 = .ok (.iload 4, 2) := by decide +kernel
theorem d_F_firstOne_51 : decode b_F_firstOne 51 = .ok (.iload_n 3, 1) := by decide +kernel
theorem d_F_firstOne_52 : decode b_F_firstOne 52 = .ok (.ior, 1) := by decide +kernel
theorem d_F_firstOne_53 : decode b_F_firstOne 53 = .ok (.iconst 1, 1) := by decide +kernel
theorem d_F_firstOne_54 : decode b_F_firstOne 54 = .ok (.iadd, 1) := by decide +kernel
theorem d_F_firstOne_55 : decode b_F_firstOne 55 = .ok (.iload_n 3, 1) := by decide +kernel
theorem d_F_firstOne_56 : decode b_F_firstOne 56 = .ok (.iconst (-1), 1) := by decide +kernel
theorem d_F_firstOne_57 : decode b_F_firstOne 57 = .ok (.ixor, 1) := by decide +kernel
theorem d_F_firstOne_58 : decode b_F_firstOne 58 = .ok (.iand, 1) := by decide +kernel
theorem d_F_firstOne_59 : decode b_F_firstOne 59 = .ok (.istore 4, 2) := by decide +kernel
theorem d_F_firstOne_61 : decode b_F_firstOne 61 = .ok (.goto (-42), 3) := by decide +kernel
theorem d_F_firstOne_64 : decode b_F_firstOne 64 = .ok (.iconst (-1), 1) := by decide +kernel
theorem d_F_firstOne_65 : decode b_F_firstOne 65 = .ok (.ireturn, 1) := by decide +kernel
theorem d_F_areSame_0 : decode b_F_areSame 0 = .ok (.aload_n 0, 1) := by decide +kernel
theorem d_F_areSame_1 : decode b_F_areSame 1 = .ok (.getfield 13, 3) := by decide +kernel
theorem d_F_areSame_4 : decode b_F_areSame 4 = .ok (.iload_n 1, 1) := by decide +kernel
theorem d_F_areSame_5 : decode b_F_areSame 5 = .ok (.aaload, 1) := by decide +kernel
theorem d_F_areSame_6 : decode b_F_areSame 6 = .ok (.astore_n 3, 1) := by decide +kernel
theorem d_F_areSame_7 : decode b_F_areSame 7 = .ok (.aload_n 0, 1) := by decide +kernel
theorem d_F_areSame_8 : decode b_F_areSame 8 = .ok (.getfield 13, 3) := by decide +kernel
theorem d_F_areSame_11 : decode b_F_areSame 11 = .ok (.iload_n 2, 1) := by decide +kernel
theorem d_F_areSame_12 : decode b_F_areSame 12 = .ok (.aaload, 1) := by decide +kernel
theorem d_F_areSame_13 : decode b_F_areSame 13 = .ok (.astore 4, 2) := by decide +kernel
theorem d_F_areSame_15 : decode b_F_areSame 15 = .ok (.aload_n 0, 1) := by decide +kernel
theorem d_F_areSame_16 : decode b_F_areSame 16 = .ok (.iload_n 1, 1) := by decide +kernel
theorem d_F_areSame_17 : decode b_F_areSame 17 = .ok (.invokevirtual 32, 3) := by decide +kernel
theorem d_F_areSame_20 : decode b_F_areSame 20 = .ok (.istore 5, 2) := by decide +kernel
theorem d_F_areSame_22 : decode b_F_areSame 22 = .ok (.aload_n 0, 1) := by decide +kernel
theorem d_F_areSame_23 : decode b_F_areSame 23 = .ok (.iload_n 2, 1) := by decide +kernel
theorem d_F_areSame_24 : decode b_F_areSame 24 = .ok (.invokevirtual 32, 3) := by decide +kernel
theorem d_F_areSame_27 : decode b_F_areSame 27 = .ok (.istore 6, 2) := by decide +kernel
theorem d_F_areSame_29 : decode b_F_areSame 29 = .ok (.iload 5, 2) := by decide +kernel
theorem d_F_areSame_31 : decode b_F_areSame 31 = .ok (.iload 6, 2) := by decide +kernel
theorem d_F_areSame_33 : decode b_F_areSame 33 = .ok (.ior, 1) := by decide +kernel
theorem d_F_areSame_34 : decode b_F_areSame 34 = .ok (.invokestatic 45, 3) := by decide +kernel
theorem d_F_areSame_37 : decode b_F_areSame 37 = .ok (.istore 7, 2) := by decide +kernel
theorem d_F_areSame_39 : decode b_F_areSame 39 = .ok (.iconst 0, 1) := by decide +kernel
theorem d_F_areSame_40 : decode b_F_areSame 40 = .ok (.istore 8, 2) := by decide +kernel
theorem d_F_areSame_42 : decode b_F_areSame 42 = .ok (.iload 8, 2) := by decide +kernel
theorem d_F_areSame_44 : decode b_F_areSame 44 = .ok (.bipush 16, 2) := by decide +kernel
theorem d_F_areSame_46 : decode b_F_areSame 46 = .ok (.if_icmp .ge 41, 3) := by decide +kernel
theorem d_F_areSame_49 : decode b_F_areSame 49 = .ok (.aload_n 3, 1) := by decide +kernel
theorem d_F_areSame_50 : decode b_F_areSame 50 = .ok (.iload 8, 2) := by decide +kernel
theorem d_F_areSame_52 : decode b_F_areSame 52 = .ok (.iload 5, 2) := by decide +kernel
theorem d_F_areSame_54 : decode b_F_areSame 54 = .ok (.iand, 1) := by decide +kernel
theorem d_F_areSame_55 : decode b_F_areSame 55 = .ok (.laload, 1) := by decide +kernel
theorem d_F_areSame_56 : decode b_F_areSame 56 = .ok (.aload 4, 2) := by decide +kernel
theorem d_F_areSame_58 : decode b_F_areSame 58 = .ok (.iload 8, 2) := by decide +kernel
theorem d_F_areSame_60 : decode b_F_areSame 60 = .ok (.iload 6, 2) := by decide +kernel
theorem d_F_areSame_62 : decode b_F_areSame 62 = .ok (.iand, 1) := by decide +kernel
theorem d_F_areSame_63 : decode b_F_areSame 63 = .ok (.laload, 1) := by decide +kernel
theorem d_F_areSame_64 : decode b_F_areSame 64 = .ok (.lcmp, 1) := by decide +kernel
theorem d_F_areSame_65 : decode b_F_areSame 65 = .ok (.ifCond .eq 5, 3) := by decide +kernel
theorem d_F_areSame_68 : decode b_F_areSame 68 = .ok (.iconst 0, 1) := by decide +kernel
theorem d_F_areSame_69 : decode b_F_areSame 69 = .ok (.ireturn, 1) := by decide +kernel
theorem d_F_areSame_70 : decode b_F_areSame 70 = .ok (.iload 8, 2) := by decide +kernel
theorem d_F_areSame_72 : decode b_F_areSame 72 = .ok (.iload 7, 2) := by decide +kernel
theorem d_F_areSame_74 : decode b_F_areSame 74 = .ok (.ior, 1) := by decide +kernel
theorem d_F_areSame_75 : decode b_F_areSame 75 = .ok (.iconst 1, 1) := by decide +kernel
theorem d_F_areSame_76 : decode b_F_areSame 76 = .ok (.iadd, 1) := by decide +kernel
theorem d_F_areSame_77 : decode b_F_areSame 77 = .ok (.iload 7, 2) := by decide +kernel
theorem d_F_areSame_79 : decode b_F_areSame 79 = .ok (.iconst (-1), 1) := by decide +kernel
theorem d_F_areSame_80 : decode b_F_areSame 80 = .ok (.ixor, 1) := by decide +kernel
theorem d_F_areSame_81 : decode b_F_areSame 81 = .ok (.iand, 1) := by decide +kernel
theorem d_F_areSame_82 : decode b_F_areSame 82 = .ok (.istore 8, 2) := by decide +kernel
theorem d_F_areSame_84 : decode b_F_areSame 84 = .ok (.goto (-42), 3) := by decide +kernel
theorem d_F_areSame_87 : decode b_F_areSame 87 = .ok (.iconst 1, 1) := by decide +kernel
theorem d_F_areSame_88 : decode b_F_areSame 88 = .ok (.ireturn, 1) := by decide +kernel
theorem d_F_usedInputs_0 : decode b_F_usedInputs 0 = .ok (.aload_n 0, 1) := by decide +kernel
theorem d_F_usedInputs_1 : decode b_F_usedInputs 1 = .ok (.getfield 21, 3) := by decide +kernel
theorem d_F_usedInputs_4 : decode b_F_usedInputs 4 = .ok (.iload_n 1, 1) := by decide +kernel
theorem d_F_usedInputs_5 : decode b_F_usedInputs 5 = .ok (.ishr, 1) := by decide +kernel
theorem d_F_usedInputs_6 : decode b_F_usedInputs 6 = .ok (.iconst 1, 1) := by decide +kernel
theorem d_F_usedInputs_7 : decode b_F_usedInputs 7 = .ok (.iand, 1) := by decide +kernel
theorem d_F_usedInputs_8 : decode b_F_usedInputs 8 = .ok (.ifCond .ne 56, 3) := by decide +kernel
theorem d_F_usedInputs_11 : decode b_F_usedInputs 11 = .ok (.aload_n 0, 1) := by decide +kernel
theorem d_F_usedInputs_12 : decode b_F_usedInputs 12 = .ok (.getfield 16, 3) := by decide +kernel
theorem d_F_usedInputs_15 : decode b_F_usedInputs 15 = .ok (.iload_n 1, 1) := by decide +kernel
theorem d_F_usedInputs_16 : decode b_F_usedInputs 16 = .ok (.iaload, 1) := by decide +kernel
theorem d_F_usedInputs_17 : decode b_F_usedInputs 17 = .ok (.istore_n 2, 1) := by decide +kernel
theorem d_F_usedInputs_18 : decode b_F_usedInputs 18 = .ok (.iload_n 2, 1) := by decide +kernel
theorem d_F_usedInputs_19 : decode b_F_usedInputs 19 = .ok (.istore_n 3, 1) := by decide +kernel
theorem d_F_usedInputs_20 : decode b_F_usedInputs 20 = .ok (.iload_n 3, 1) := by decide +kernel
theorem d_F_usedInputs_21 : decode b_F_usedInputs 21 = .ok (.ifCond .eq 37, 3) := by decide +kernel
theorem d_F_usedInputs_24 : decode b_F_usedInputs 24 = .ok (.iload_n 3, 1) := by decide +kernel
theorem d_F_usedInputs_25 : decode b_F_usedInputs 25 = .ok (.invokestatic 76, 3) := by decide +kernel
theorem d_F_usedInputs_28 : decode b_F_usedInputs 28 = .ok (.istore 4, 2) := by decide +kernel
theorem d_F_usedInputs_30 : decode b_F_usedInputs 30 = .ok (.aload_n 0, 1) := by decide +kernel
theorem d_F_usedInputs_31 : decode b_F_usedInputs 31 = .ok (.iload_n 1, 1) := by decide +kernel
theorem d_F_usedInputs_32 : decode b_F_usedInputs 32 = .ok (.iload 4, 2) := by decide +kernel
theorem d_F_usedInputs_34 : decode b_F_usedInputs 34 = .ok (.invokevirtual 91, 3) := by decide +kernel
theorem d_F_usedInputs_37 : decode b_F_usedInputs 37 = .ok (.ifCond .ne 12, 3) := by decide +kernel
theorem d_F_usedInputs_40 : decode b_F_usedInputs 40 = .ok (.iload_n 2, 1) := by decide +kernel
theorem d_F_usedInputs_41 : decode b_F_usedInputs 41 = .ok (.iconst 1, 1) := by decide +kernel
theorem d_F_usedInputs_42 : decode b_F_usedInputs 42 = .ok (.iload 4, 2) := by decide +kernel
theorem d_F_usedInputs_44 : decode b_F_usedInputs 44 = .ok (.ishl, 1) := by decide +kernel
theorem d_F_usedInputs_45 : decode b_F_usedInputs 45 = .ok (.iconst (-1), 1) := by decide +kernel
theorem d_F_usedInputs_46 : decode b_F_usedInputs 46 = .ok (.ixor, 1) := by decide +kernel
theorem d_F_usedInputs_47 : decode b_F_usedInputs 47 = .ok (.iand, 1) := by decide +kernel
theorem d_F_usedInputs_48 : decode b_F_usedInputs 48 = .ok (.istore_n 2, 1) := by decide +kernel
theorem d_F_usedInputs_49 : decode b_F_usedInputs 49 = .ok (.iload_n 3, 1) := by decide +kernel
theorem d_F_usedInputs_50 : decode b_F_usedInputs 50 = .ok (.iload_n 3, 1) := by decide +kernel
theorem d_F_usedInputs_51 : decode b_F_usedInputs 51 = .ok (.iconst 1, 1) := by decide +kernel
theorem d_F_usedInputs_52 : decode b_F_usedInputs 52 = .ok (.isub, 1) := by decide +kernel
theorem d_F_usedInputs_53 : decode b_F_usedInputs 53 = .ok (.iand, 1) := by decide +kernel
theorem d_F_usedInputs_54 : decode b_F_usedInputs 54 = .ok (.istore_n 3, 1) := by decide +kernel
theorem d_F_usedInputs_55 : decode b_F_usedInputs 55 = .ok (.goto (-35), 3) := by decide +kernel
theorem d_F_usedInputs_58 : decode b_F_usedInputs 58 = .ok (.aload_n 0, 1) := by decide +kernel
theorem d_F_usedInputs_59 : decode b_F_usedInputs 59 = .ok (.iload_n 1, 1) := by decide +kernel
theorem d_F_usedInputs_60 : decode b_F_usedInputs 60 = .ok (.iload_n 2, 1) := by decide +kernel
theorem d_F_usedInputs_61 : decode b_F_usedInputs 61 = .ok (.invokevirtual 38, 3) := by decide +kernel
theorem d_F_usedInputs_64 : decode b_F_usedInputs 64 = .ok (.aload_n 0, 1) := by decide +kernel
theorem d_F_usedInputs_65 : decode b_F_usedInputs 65 = .ok (.getfield 16, 3) := by decide +kernel
theorem d_F_usedInputs_68 : decode b_F_usedInputs 68 = .ok (.iload_n 1, 1) := by decide +kernel
theorem d_F_usedInputs_69 : decode b_F_usedInputs 69 = .ok (.iaload, 1) := by decide +kernel
theorem d_F_usedInputs_70 : decode b_F_usedInputs 70 = .ok (.ireturn, 1) := by decide +kernel
theorem d_F_depends_0 : decode b_F_depends 0 = .ok (.aload_n 0, 1) := by decide +kernel
theorem d_F_depends_1 : decode b_F_depends 1 = .ok (.iload_n 1, 1) := by decide +kernel
theorem d_F_depends_2 : decode b_F_depends 2 = .ok (.invokevirtual 32, 3) := by decide +kernel
theorem d_F_depends_5 : decode b_F_depends 5 = .ok (.invokestatic 45, 3) := by decide +kernel
theorem d_F_depends_8 : decode b_F_depends 8 = .ok (.istore_n 3, 1) := by decide +kernel
theorem d_F_depends_9 : decode b_F_depends 9 = .ok (.iload_n 2, 1) := by decide +kernel
theorem d_F_depends_10 : decode b_F_depends 10 = .ok (.bipush 6, 2) := by decide +kernel
theorem d_F_depends_12 : decode b_F_depends 12 = .ok (.if_icmp .ge 17, 3) := by decide +kernel
theorem d_F_depends_15 : decode b_F_depends 15 = .ok (.aload_n 0, 1) := by decide +kernel
theorem d_F_depends_16 : decode b_F_depends 16 = .ok (.getfield 13, 3) := by decide +kernel
theorem d_F_depends_19 : decode b_F_depends 19 = .ok (.iload_n 1, 1) := by decide +kernel
theorem d_F_depends_20 : decode b_F_depends 20 = .ok (.aaload, 1) := by decide +kernel
theorem d_F_depends_21 : decode b_F_depends 21 = .ok (.iload_n 3, 1) := by decide +kernel
theorem d_F_depends_22 : decode b_F_depends 22 = .ok (.iload_n 2, 1) := by decide +kernel
theorem d_F_depends_23 : decode b_F_depends 23 = .ok (.invokestatic 95, 3) := by decide +kernel
theorem d_F_depends_26 : decode b_F_depends 26 = .ok (.goto 19, 3) := by decide +kernel
theorem d_F_depends_29 : decode b_F_depends 29 = .ok (.aload_n 0, 1) := by decide +kernel
theorem d_F_depends_30 : decode b_F_depends 30 = .ok (.getfield 13, 3) := by decide +kernel
theorem d_F_depends_33 : decode b_F_depends 33 = .ok (.iload_n 1, 1) := by decide +kernel
theorem d_F_depends_34 : decode b_F_depends 34 = .ok (.aaload, 1) := by decide +kernel
theorem d_F_depends_35 : decode b_F_depends 35 = .ok (.iload_n 3, 1) := by decide +kernel
theorem d_F_depends_36 : decode b_F_depends 36 = .ok (.iconst 1, 1) := by decide +kernel
theorem d_F_depends_37 : decode b_F_depends 37 = .ok (.iload_n 2, 1) := by decide +kernel
theorem d_F_depends_38 : decode b_F_depends 38 = .ok (.bipush 6, 2) := by decide +kernel
theorem d_F_depends_40 : decode b_F_depends 40 = .ok (.isub, 1) := by decide +kernel
theorem d_F_depends_41 : decode b_F_depends 41 = .ok (.ishl, 1) := by decide +kernel
theorem d_F_depends_42 : decode b_F_depends 42 = .ok (.invokestatic 99, 3) := by decide +kernel
theorem d_F_depends_45 : decode b_F_depends 45 = .ok (.ireturn, 1) := by decide +kernel
theorem d_F_dependsWithinWords_0 : decode b_F_dependsWithinWords 0 = .ok (.getstatic 42, 3) := by decide +kernel
theorem d_F_dependsWithinWords_3 : decode b_F_dependsWithinWords 3 = .ok (.iload_n 2, 1) := by decide +kernel
theorem d_F_dependsWithinWords_4 : decode b_F_dependsWithinWords 4 = .ok (.laload, 1) := by decide +kernel
theorem d_F_dependsWithinWords_5 : decode b_F_dependsWithinWords 5 = .ok (.ldc2_w 36, 3) := by decide +kernel
theorem d_F_dependsWithinWords_8 : decode b_F_dependsWithinWords 8 = .ok (.lxor, 1) := by decide +kernel
theorem d_F_dependsWithinWords_9 : decode b_F_dependsWithinWords 9 = .ok (.lstore_n 3, 1) := by decide +kernel
theorem d_F_dependsWithinWords_10 : decode b_F_dependsWithinWords 10 = .ok (.iconst 1, 1) := by decide +kernel
theorem d_F_dependsWithinWords_11 : decode b_F_dependsWithinWords 11 = .ok (.iload_n 2, 1) := by decide +kernel
theorem d_F_dependsWithinWords_12 : decode b_F_dependsWithinWords 12 = .ok (.ishl, 1) := by decide +kernel
theorem d_F_dependsWithinWords_13 : decode b_F_dependsWithinWords 13 = .ok (.istore 5, 2) := by decide +kernel
theorem d_F_dependsWithinWords_15 : decode b_F_dependsWithinWords 15 = .ok (.iconst 0, 1) := by decide +kernel
theorem d_F_dependsWithinWords_16 : decode b_F_dependsWithinWords 16 = .ok (.istore 6, 2) := by decide +kernel
theorem d_F_dependsWithinWords_18 : decode b_F_dependsWithinWords 18 = .ok (.iload 6, 2) := by decide +kernel
theorem d_F_dependsWithinWords_20 : decode b_F_dependsWithinWords 20 = .ok (.bipush 16, 2) := by decide +kernel
theorem d_F_dependsWithinWords_22 : decode b_F_dependsWithinWords 22 = .ok (.if_icmp .ge 39, 3) := by decide +kernel
theorem d_F_dependsWithinWords_25 : decode b_F_dependsWithinWords 25 = .ok (.aload_n 0, 1) := by decide +kernel
theorem d_F_dependsWithinWords_26 : decode b_F_dependsWithinWords 26 = .ok (.iload 6, 2) := by decide +kernel
theorem d_F_dependsWithinWords_28 : decode b_F_dependsWithinWords 28 = .ok (.laload, 1) := by decide +kernel
theorem d_F_dependsWithinWords_29 : decode b_F_dependsWithinWords 29 = .ok (.aload_n 0, 1) := by decide +kernel
theorem d_F_dependsWithinWords_30 : decode b_F_dependsWithinWords 30 = .ok (.iload 6, 2) := by decide +kernel
theorem d_F_dependsWithinWords_32 : decode b_F_dependsWithinWords 32 = .ok (.laload, 1) := by decide +kernel
theorem d_F_dependsWithinWords_33 : decode b_F_dependsWithinWords 33 = .ok (.iload 5, 2) := by decide +kernel
theorem d_F_dependsWithinWords_35 : decode b_F_dependsWithinWords 35 = .ok (.lushr, 1) := by decide +kernel
theorem d_F_dependsWithinWords_36 : decode b_F_dependsWithinWords 36 = .ok (.lxor, 1) := by decide +kernel
theorem d_F_dependsWithinWords_37 : decode b_F_dependsWithinWords 37 = .ok (.lload_n 3, 1) := by decide +kernel
theorem d_F_dependsWithinWords_38 : decode b_F_dependsWithinWords 38 = .ok (.land, 1) := by decide +kernel
theorem d_F_dependsWithinWords_39 : decode b_F_dependsWithinWords 39 = .ok (.lconst 0, 1) := by decide +kernel
theorem d_F_dependsWithinWords_40 : decode b_F_dependsWithinWords 40 = .ok (.lcmp, 1) := by decide +kernel
theorem d_F_dependsWithinWords_41 : decode b_F_dependsWithinWords 41 = .ok (.ifCond .eq 5, 3) := by decide +kernel
theorem d_F_dependsWithinWords_44 : decode b_F_dependsWithinWords 44 = .ok (.iconst 1, 1) := by decide +kernel
theorem d_F_dependsWithinWords_45 : decode b_F_dependsWithinWords 45 = .ok (.ireturn, 1) := by decide +kernel
theorem d_F_dependsWithinWords_46 : decode b_F_dependsWithinWords 46 = .ok (.iload 6, 2) := by decide +kernel
theorem d_F_dependsWithinWords_48 : decode b_F_dependsWithinWords 48 = .ok (.iload_n 1, 1) := by decide +kernel
theorem d_F_dependsWithinWords_49 : decode b_F_dependsWithinWords 49 = .ok (.ior, 1) := by decide +kernel
theorem d_F_dependsWithinWords_50 : decode b_F_dependsWithinWords 50 = .ok (.iconst 1, 1) := by decide +kernel
theorem d_F_dependsWithinWords_51 : decode b_F_dependsWithinWords 51 = .ok (.iadd, 1) := by decide +kernel
theorem d_F_dependsWithinWords_52 : decode b_F_dependsWithinWords 52 = .ok (.iload_n 1, 1) := by decide +kernel
theorem d_F_dependsWithinWords_53 : decode b_F_dependsWithinWords 53 = .ok (.iconst (-1), 1) := by decide +kernel
theorem d_F_dependsWithinWords_54 : decode b_F_dependsWithinWords 54 = .ok (.ixor, 1) := by decide +kernel
theorem d_F_dependsWithinWords_55 : decode b_F_dependsWithinWords 55 = .ok (.iand, 1) := by decide +kernel
theorem d_F_dependsWithinWords_56 : decode b_F_dependsWithinWords 56 = .ok (.istore 6, 2) := by decide +kernel
theorem d_F_dependsWithinWords_58 : decode b_F_dependsWithinWords 58 = .ok (.goto (-40), 3) := by decide +kernel
theorem d_F_dependsWithinWords_61 : decode b_F_dependsWithinWords 61 = .ok (.iconst 0, 1) := by decide +kernel
theorem d_F_dependsWithinWords_62 : decode b_F_dependsWithinWords 62 = .ok (.ireturn, 1) := by decide +kernel
theorem d_F_dependsOnWords_0 : decode b_F_dependsOnWords 0 = .ok (.iload_n 1, 1) := by decide +kernel
theorem d_F_dependsOnWords_1 : decode b_F_dependsOnWords 1 = .ok (.iload_n 2, 1) := by decide +kernel
theorem d_F_dependsOnWords_2 : decode b_F_dependsOnWords 2 = .ok (.ior, 1) := by decide +kernel
theorem d_F_dependsOnWords_3 : decode b_F_dependsOnWords 3 = .ok (.istore_n 3, 1) := by decide +kernel
theorem d_F_dependsOnWords_4 : decode b_F_dependsOnWords 4 = .ok (.iconst 0, 1) := by decide +kernel
theorem d_F_dependsOnWords_5 : decode b_F_dependsOnWords 5 = .ok (.istore 4, 2) := by decide +kernel
theorem d_F_dependsOnWords_7 : decode b_F_dependsOnWords 7 = .ok (.iload 4, 2) := by decide +kernel
theorem d_F_dependsOnWords_9 : decode b_F_dependsOnWords 9 = .ok (.bipush 16, 2) := by decide +kernel
theorem d_F_dependsOnWords_11 : decode b_F_dependsOnWords 11 = .ok (.if_icmp .ge 34, 3) := by decide +kernel
theorem d_F_dependsOnWords_14 : decode b_F_dependsOnWords 14 = .ok (.aload_n 0, 1) := by decide +kernel
theorem d_F_dependsOnWords_15 : decode b_F_dependsOnWords 15 = .ok (.iload 4, 2) := by decide +kernel
theorem d_F_dependsOnWords_17 : decode b_F_dependsOnWords 17 = .ok (.laload, 1) := by decide +kernel
theorem d_F_dependsOnWords_18 : decode b_F_dependsOnWords 18 = .ok (.aload_n 0, 1) := by decide +kernel
theorem d_F_dependsOnWords_19 : decode b_F_dependsOnWords 19 = .ok (.iload 4, 2) := by decide +kernel
theorem d_F_dependsOnWords_21 : decode b_F_dependsOnWords 21 = .ok (.iload_n 2, 1) := by decide +kernel
theorem d_F_dependsOnWords_22 : decode b_F_dependsOnWords 22 = .ok (.ior, 1) := by decide +kernel
theorem d_F_dependsOnWords_23 : decode b_F_dependsOnWords 23 = .ok (.laload, 1) := by decide +kernel
theorem d_F_dependsOnWords_24 : decode b_F_dependsOnWords 24 = .ok (.lcmp, 1) := by decide +kernel
theorem d_F_dependsOnWords_25 : decode b_F_dependsOnWords 25 = .ok (.ifCond .eq 5, 3) := by decide +kernel
theorem d_F_dependsOnWords_28 : decode b_F_dependsOnWords 28 = .ok (.iconst 1, 1) := by decide +kernel
theorem d_F_dependsOnWords_29 : decode b_F_dependsOnWords 29 = .ok (.ireturn, 1) := by decide +kernel
theorem d_F_dependsOnWords_30 : decode b_F_dependsOnWords 30 = .ok (.iload 4, 2) := by decide +kernel
theorem d_F_dependsOnWords_32 : decode b_F_dependsOnWords 32 = .ok (.iload_n 3, 1) := by decide +kernel
theorem d_F_dependsOnWords_33 : decode b_F_dependsOnWords 33 = .ok (.ior, 1) := by decide +kernel
theorem d_F_dependsOnWords_34 : decode b_F_dependsOnWords 34 = .ok (.iconst 1, 1) := by decide +kernel
theorem d_F_dependsOnWords_35 : decode b_F_dependsOnWords 35 = .ok (.iadd, 1) := by decide +kernel
theorem d_F_dependsOnWords_36 : decode b_F_dependsOnWords 36 = .ok (.iload_n 3, 1) := by decide +kernel
theorem d_F_dependsOnWords_37 : decode b_F_dependsOnWords 37 = .ok (.iconst (-1), 1) := by decide +kernel
theorem d_F_dependsOnWords_38 : decode b_F_dependsOnWords 38 = .ok (.ixor, 1) := by decide +kernel
theorem d_F_dependsOnWords_39 : decode b_F_dependsOnWords 39 = .ok (.iand, 1) := by decide +kernel
theorem d_F_dependsOnWords_40 : decode b_F_dependsOnWords 40 = .ok (.istore 4, 2) := by decide +kernel
theorem d_F_dependsOnWords_42 : decode b_F_dependsOnWords 42 = .ok (.goto (-35), 3) := by decide +kernel
theorem d_F_dependsOnWords_45 : decode b_F_dependsOnWords 45 = .ok (.iconst 0, 1) := by decide +kernel
theorem d_F_dependsOnWords_46 : decode b_F_dependsOnWords 46 = .ok (.ireturn, 1) := by decide +kernel
theorem d_F_findMates_0 : decode b_F_findMates 0 = .ok (.iconst 0, 1) := by decide +kernel
theorem d_F_findMates_1 : decode b_F_findMates 1 = .ok (.istore_n 2, 1) := by decide +kernel
theorem d_F_findMates_2 : decode b_F_findMates 2 = .ok (.iload_n 2, 1) := by decide +kernel
theorem d_F_findMates_3 : decode b_F_findMates 3 = .ok (.bipush 10, 2) := by decide +kernel
theorem d_F_findMates_5 : decode b_F_findMates 5 = .ok (.if_icmp .ge 13, 3) := by decide +kernel
theorem d_F_findMates_8 : decode b_F_findMates 8 = .ok (.aload_n 1, 1) := by decide +kernel
theorem d_F_findMates_9 : decode b_F_findMates 9 = .ok (.iload_n 2, 1) := by decide +kernel
theorem d_F_findMates_10 : decode b_F_findMates 10 = .ok (.iconst 0, 1) := by decide +kernel
theorem d_F_findMates_11 : decode b_F_findMates 11 = .ok (.iastore, 1) := by decide +kernel
theorem d_F_findMates_12 : decode b_F_findMates 12 = .ok (.iinc 2 1, 3) := by decide +kernel
theorem d_F_findMates_15 : decode b_F_findMates 15 = .ok (.goto (-13), 3) := by decide +kernel
theorem d_F_findMates_18 : decode b_F_findMates 18 = .ok (.aload_n 0, 1) := by decide +kernel
theorem d_F_findMates_19 : decode b_F_findMates 19 = .ok (.getfield 25, 3) := by decide +kernel
theorem d_F_findMates_22 : decode b_F_findMates 22 = .ok (.istore_n 2, 1) := by decide +kernel
theorem d_F_findMates_23 : decode b_F_findMates 23 = .ok (.iload_n 2, 1) := by decide +kernel
theorem d_F_findMates_24 : decode b_F_findMates 24 = .ok (.ifCond .eq 53, 3) := by decide +kernel
theorem d_F_findMates_27 : decode b_F_findMates 27 = .ok (.aload_n 0, 1) := by decide +kernel
theorem d_F_findMates_28 : decode b_F_findMates 28 = .ok (.getfield 16, 3) := by decide +kernel
theorem d_F_findMates_31 : decode b_F_findMates 31 = .ok (.iload_n 2, 1) := by decide +kernel
theorem d_F_findMates_32 : decode b_F_findMates 32 = .ok (.invokestatic 76, 3) := by decide +kernel
theorem d_F_findMates_35 : decode b_F_findMates 35 = .ok (.iaload, 1) := by decide +kernel
theorem d_F_findMates_36 : decode b_F_findMates 36 = .ok (.istore_n 3, 1) := by decide +kernel
theorem d_F_findMates_37 : decode b_F_findMates 37 = .ok (.iload_n 3, 1) := by decide +kernel
theorem d_F_findMates_38 : decode b_F_findMates 38 = .ok (.istore 4, 2) := by decide +kernel
theorem d_F_findMates_40 : decode b_F_findMates 40 = .ok (.iload 4, 2) := by decide +kernel
theorem d_F_findMates_42 : decode b_F_findMates 42 = .ok (.ifCond .eq 26, 3) := by decide +kernel
theorem d_F_findMates_45 : decode b_F_findMates 45 = .ok (.aload_n 1, 1) := by decide +kernel
theorem d_F_findMates_46 : decode b_F_findMates 46 = .ok (.iload 4, 2) := by decide +kernel
theorem d_F_findMates_48 : decode b_F_findMates 48 = .ok (.invokestatic 76, 3) := by decide +kernel
theorem d_F_findMates_51 : decode b_F_findMates 51 = .ok (.dup2, 1) := by decide +kernel
theorem d_F_findMates_52 : decode b_F_findMates 52 = .ok (.iaload, 1) := by decide +kernel
theorem d_F_findMates_53 : decode b_F_findMates 53 = .ok (.iload_n 3, 1) := by decide +kernel
theorem d_F_findMates_54 : decode b_F_findMates 54 = .ok (.ior, 1) := by decide +kernel
theorem d_F_findMates_55 : decode b_F_findMates 55 = .ok (.iastore, 1) := by decide +kernel
theorem d_F_findMates_56 : decode b_F_findMates 56 = .ok (.iload 4, 2) := by decide +kernel
theorem d_F_findMates_58 : decode b_F_findMates 58 = .ok (.iload 4, 2) := by decide +kernel
theorem d_F_findMates_60 : decode b_F_findMates 60 = .ok (.iconst 1, 1) := by decide +kernel
theorem d_F_findMates_61 : decode b_F_findMates 61 = .ok (.isub, 1) := by decide +kernel
theorem d_F_findMates_62 : decode b_F_findMates 62 = .ok (.iand, 1) := by decide +kernel
theorem d_F_findMates_63 : decode b_F_findMates 63 = .ok (.istore 4, 2) := by decide +kernel
theorem d_F_findMates_65 : decode b_F_findMates 65 = .ok (.goto (-25), 3) := by decide +kernel
theorem d_F_findMates_68 : decode b_F_findMates 68 = .ok (.iload_n 2, 1) := by decide +kernel
theorem d_F_findMates_69 : decode b_F_findMates 69 = .ok (.iload_n 2, 1) := by decide +kernel
theorem d_F_findMates_70 : decode b_F_findMates 70 = .ok (.iconst 1, 1) := by decide +kernel
theorem d_F_findMates_71 : decode b_F_findMates 71 = .ok (.isub, 1) := by decide +kernel
theorem d_F_findMates_72 : decode b_F_findMates 72 = .ok (.iand, 1) := by decide +kernel
theorem d_F_findMates_73 : decode b_F_findMates 73 = .ok (.istore_n 2, 1) := by decide +kernel
theorem d_F_findMates_74 : decode b_F_findMates 74 = .ok (.goto (-51), 3) := by decide +kernel
theorem d_F_findMates_77 : decode b_F_findMates 77 = .ok (.return_, 1) := by decide +kernel
