theorem d_L_constant_0 : decode b_L_constant 0 = .ok (.aload_n 0, 1) := by decide +kernel
theorem d_L_constant_1 : decode b_L_constant 1 = .ok (.iload_n 1, 1) := by decide +kernel
theorem d_L_constant_2 : decode b_L_constant 2 = .ok (.iload_n 2, 1) := by decide +kernel
theorem d_L_constant_3 : decode b_L_constant 3 = .ok (.invokevirtual 7, 3) := by decide +kernel
theorem d_L_constant_6 : decode b_L_constant 6 = .ok (.goto 9, 3) := by decide +kernel
theorem d_L_constant_9 : decode b_L_constant 9 = .ok (.astore_n 3, 1) := by decide +kernel
theorem d_L_constant_10 : decode b_L_constant 10 = .ok (.iconst 1, 1) := by decide +kernel
theorem d_L_constant_11 : decode b_L_constant 11 = .ok (.ireturn, 1) := by decide +kernel
theorem d_L_constant_12 : decode b_L_constant 12 = .ok (.astore_n 3, 1) := by decide +kernel
theorem d_L_constant_13 : decode b_L_constant 13 = .ok (.iconst 2, 1) := by decide +kernel
theorem d_L_constant_14 : decode b_L_constant 14 = .ok (.ireturn, 1) := by decide +kernel
theorem d_L_constant_15 : decode b_L_constant 15 = .ok (.iconst 0, 1) := by decide +kernel
theorem d_L_constant_16 : decode b_L_constant 16 = .ok (.ireturn, 1) := by decide +kernel
theorem d_L_input_0 : decode b_L_input 0 = .ok (.aload_n 0, 1) := by decide +kernel
theorem d_L_input_1 : decode b_L_input 1 = .ok (.iload_n 1, 1) := by decide +kernel
theorem d_L_input_2 : decode b_L_input 2 = .ok (.iload_n 2, 1) := by decide +kernel
theorem d_L_input_3 : decode b_L_input 3 = .ok (.invokevirtual 17, 3) := by decide +kernel
theorem d_L_input_6 : decode b_L_input 6 = .ok (.goto 9, 3) := by decide +kernel
theorem d_L_input_9 : decode b_L_input 9 = .ok (.astore_n 3, 1) := by decide +kernel
theorem d_L_input_10 : decode b_L_input 10 = .ok (.iconst 1, 1) := by decide +kernel
theorem d_L_input_11 : decode b_L_input 11 = .ok (.ireturn, 1) := by decide +kernel
theorem d_L_input_12 : decode b_L_input 12 = .ok (.astore_n 3, 1) := by decide +kernel
theorem d_L_input_13 : decode b_L_input 13 = .ok (.iconst 2, 1) := by decide +kernel
theorem d_L_input_14 : decode b_L_input 14 = .ok (.ireturn, 1) := by decide +kernel
theorem d_L_input_15 : decode b_L_input 15 = .ok (.iconst 0, 1) := by decide +kernel
theorem d_L_input_16 : decode b_L_input 16 = .ok (.ireturn, 1) := by decide +kernel
theorem d_L_make_0 : decode b_L_make 0 = .ok (.aload_n 0, 1) := by decide +kernel
theorem d_L_make_1 : decode b_L_make 1 = .ok (.iload_n 1, 1) := by decide +kernel
theorem d_L_make_2 : decode b_L_make 2 = .ok (.iload_n 2, 1) := by decide +kernel
theorem d_L_make_3 : decode b_L_make 3 = .ok (.iload_n 3, 1) := by decide +kernel
theorem d_L_make_4 : decode b_L_make 4 = .ok (.iload 4, 2) := by decide +kernel
theorem d_L_make_6 : decode b_L_make 6 = .ok (.invokevirtual 20, 3) := by decide +kernel
theorem d_L_make_9 : decode b_L_make 9 = .ok (.goto 11, 3) := by decide +kernel
theorem d_L_make_12 : decode b_L_make 12 = .ok (.astore 5, 2) := by decide +kernel
theorem d_L_make_14 : decode b_L_make 14 = .ok (.iconst 1, 1) := by decide +kernel
theorem d_L_make_15 : decode b_L_make 15 = .ok (.ireturn, 1) := by decide +kernel
theorem d_L_make_16 : decode b_L_make 16 = .ok (.astore 5, 2) := by decide +kernel
theorem d_L_make_18 : decode b_L_make 18 = .ok (.iconst 2, 1) := by decide +kernel
theorem d_L_make_19 : decode b_L_make 19 = .ok (.ireturn, 1) := by decide +kernel
theorem d_L_make_20 : decode b_L_make 20 = .ok (.iconst 0, 1) := by decide +kernel
theorem d_L_make_21 : decode b_L_make 21 = .ok (.ireturn, 1) := by decide +kernel
theorem d_L_choose_0 : decode b_L_choose 0 = .ok (.aload_n 0, 1) := by decide +kernel
theorem d_L_choose_1 : decode b_L_choose 1 = .ok (.iload_n 1, 1) := by decide +kernel
theorem d_L_choose_2 : decode b_L_choose 2 = .ok (.iload_n 2, 1) := by decide +kernel
theorem d_L_choose_3 : decode b_L_choose 3 = .ok (.iload_n 3, 1) := by decide +kernel
theorem d_L_choose_4 : decode b_L_choose 4 = .ok (.iload 4, 2) := by decide +kernel
theorem d_L_choose_6 : decode b_L_choose 6 = .ok (.invokevirtual 24, 3) := by decide +kernel
theorem d_L_choose_9 : decode b_L_choose 9 = .ok (.goto 7, 3) := by decide +kernel
theorem d_L_choose_12 : decode b_L_choose 12 = .ok (.astore 5, 2) := by decide +kernel
theorem d_L_choose_14 : decode b_L_choose 14 = .ok (.iconst 1, 1) := by decide +kernel
theorem d_L_choose_15 : decode b_L_choose 15 = .ok (.ireturn, 1) := by decide +kernel
theorem d_L_choose_16 : decode b_L_choose 16 = .ok (.iconst 0, 1) := by decide +kernel
theorem d_L_choose_17 : decode b_L_choose 17 = .ok (.ireturn, 1) := by decide +kernel
theorem d_L_fix_0 : decode b_L_fix 0 = .ok (.aload_n 0, 1) := by decide +kernel
theorem d_L_fix_1 : decode b_L_fix 1 = .ok (.iload_n 1, 1) := by decide +kernel
theorem d_L_fix_2 : decode b_L_fix 2 = .ok (.iload_n 2, 1) := by decide +kernel
theorem d_L_fix_3 : decode b_L_fix 3 = .ok (.iload_n 3, 1) := by decide +kernel
theorem d_L_fix_4 : decode b_L_fix 4 = .ok (.iload 4, 2) := by decide +kernel
theorem d_L_fix_6 : decode b_L_fix 6 = .ok (.invokevirtual 27, 3) := by decide +kernel
theorem d_L_fix_9 : decode b_L_fix 9 = .ok (.goto 11, 3) := by decide +kernel
theorem d_L_fix_12 : decode b_L_fix 12 = .ok (.astore 5, 2) := by decide +kernel
theorem d_L_fix_14 : decode b_L_fix 14 = .ok (.iconst 1, 1) := by decide +kernel
theorem d_L_fix_15 : decode b_L_fix 15 = .ok (.ireturn, 1) := by decide +kernel
theorem d_L_fix_16 : decode b_L_fix 16 = .ok (.astore 5, 2) := by decide +kernel
theorem d_L_fix_18 : decode b_L_fix 18 = .ok (.iconst 2, 1) := by decide +kernel
theorem d_L_fix_19 : decode b_L_fix 19 = .ok (.ireturn, 1) := by decide +kernel
theorem d_L_fix_20 : decode b_L_fix 20 = .ok (.iconst 0, 1) := by decide +kernel
theorem d_L_fix_21 : decode b_L_fix 21 = .ok (.ireturn, 1) := by decide +kernel
theorem d_L_compose_0 : decode b_L_compose 0 = .ok (.aload_n 0, 1) := by decide +kernel
theorem d_L_compose_1 : decode b_L_compose 1 = .ok (.iload_n 1, 1) := by decide +kernel
theorem d_L_compose_2 : decode b_L_compose 2 = .ok (.iload_n 2, 1) := by decide +kernel
theorem d_L_compose_3 : decode b_L_compose 3 = .ok (.iload_n 3, 1) := by decide +kernel
theorem d_L_compose_4 : decode b_L_compose 4 = .ok (.iload 4, 2) := by decide +kernel
theorem d_L_compose_6 : decode b_L_compose 6 = .ok (.invokevirtual 30, 3) := by decide +kernel
theorem d_L_compose_9 : decode b_L_compose 9 = .ok (.goto 11, 3) := by decide +kernel
theorem d_L_compose_12 : decode b_L_compose 12 = .ok (.astore 5, 2) := by decide +kernel
theorem d_L_compose_14 : decode b_L_compose 14 = .ok (.iconst 1, 1) := by decide +kernel
theorem d_L_compose_15 : decode b_L_compose 15 = .ok (.ireturn, 1) := by decide +kernel
theorem d_L_compose_16 : decode b_L_compose 16 = .ok (.astore 5, 2) := by decide +kernel
theorem d_L_compose_18 : decode b_L_compose 18 = .ok (.iconst 2, 1) := by decide +kernel
theorem d_L_compose_19 : decode b_L_compose 19 = .ok (.ireturn, 1) := by decide +kernel
theorem d_L_compose_20 : decode b_L_compose 20 = .ok (.iconst 0, 1) := by decide +kernel
theorem d_L_compose_21 : decode b_L_compose 21 = .ok (.ireturn, 1) := by decide +kernel
theorem d_L_quantify_0 : decode b_L_quantify 0 = .ok (.aload_n 0, 1) := by decide +kernel
theorem d_L_quantify_1 : decode b_L_quantify 1 = .ok (.iload_n 1, 1) := by decide +kernel
theorem d_L_quantify_2 : decode b_L_quantify 2 = .ok (.iload_n 2, 1) := by decide +kernel
theorem d_L_quantify_3 : decode b_L_quantify 3 = .ok (.iload_n 3, 1) := by decide +kernel
theorem d_L_quantify_4 : decode b_L_quantify 4 = .ok (.iload 4, 2) := by decide +kernel
theorem d_L_quantify_6 : decode b_L_quantify 6 = .ok (.invokevirtual 33, 3) := by decide +kernel
theorem d_L_quantify_9 : decode b_L_quantify 9 = .ok (.goto 11, 3) := by decide +kernel
theorem d_L_quantify_12 : decode b_L_quantify 12 = .ok (.astore 5, 2) := by decide +kernel
theorem d_L_quantify_14 : decode b_L_quantify 14 = .ok (.iconst 1, 1) := by decide +kernel
theorem d_L_quantify_15 : decode b_L_quantify 15 = .ok (.ireturn, 1) := by decide +kernel
theorem d_L_quantify_16 : decode b_L_quantify 16 = .ok (.astore 5, 2) := by decide +kernel
theorem d_L_quantify_18 : decode b_L_quantify 18 = .ok (.iconst 2, 1) := by decide +kernel
theorem d_L_quantify_19 : decode b_L_quantify 19 = .ok (.ireturn, 1) := by decide +kernel
theorem d_L_quantify_20 : decode b_L_quantify 20 = .ok (.iconst 0, 1) := by decide +kernel
theorem d_L_quantify_21 : decode b_L_quantify 21 = .ok (.ireturn, 1) := by decide +kernel
theorem d_L_meet_0 : decode b_L_meet 0 = .ok (.aload_n 0, 1) := by decide +kernel
theorem d_L_meet_1 : decode b_L_meet 1 = .ok (.iload_n 1, 1) := by decide +kernel
theorem d_L_meet_2 : decode b_L_meet 2 = .ok (.iload_n 2, 1) := by decide +kernel
theorem d_L_meet_3 : decode b_L_meet 3 = .ok (.iload_n 3, 1) := by decide +kernel
theorem d_L_meet_4 : decode b_L_meet 4 = .ok (.iload 4, 2) := by decide +kernel
theorem d_L_meet_6 : decode b_L_meet 6 = .ok (.invokevirtual 37, 3) := by decide +kernel
theorem d_L_meet_9 : decode b_L_meet 9 = .ok (.goto 11, 3) := by decide +kernel
theorem d_L_meet_12 : decode b_L_meet 12 = .ok (.astore 5, 2) := by decide +kernel
theorem d_L_meet_14 : decode b_L_meet 14 = .ok (.iconst 1, 1) := by decide +kernel
theorem d_L_meet_15 : decode b_L_meet 15 = .ok (.ireturn, 1) := by decide +kernel
theorem d_L_meet_16 : decode b_L_meet 16 = .ok (.astore 5, 2) := by decide +kernel
theorem d_L_meet_18 : decode b_L_meet 18 = .ok (.iconst 2, 1) := by decide +kernel
theorem d_L_meet_19 : decode b_L_meet 19 = .ok (.ireturn, 1) := by decide +kernel
theorem d_L_meet_20 : decode b_L_meet 20 = .ok (.iconst 0, 1) := by decide +kernel
theorem d_L_meet_21 : decode b_L_meet 21 = .ok (.ireturn, 1) := by decide +kernel
theorem d_L_move_0 : decode b_L_move 0 = .ok (.aload_n 3, 1) := by decide +kernel
theorem d_L_move_1 : decode b_L_move 1 = .ok (.iconst 0, 1) := by decide +kernel
theorem d_L_move_2 : decode b_L_move 2 = .ok (.aload_n 0, 1) := by decide +kernel
theorem d_L_move_3 : decode b_L_move 3 = .ok (.iload_n 1, 1) := by decide +kernel
theorem d_L_move_4 : decode b_L_move 4 = .ok (.iload_n 2, 1) := by decide +kernel
theorem d_L_move_5 : decode b_L_move 5 = .ok (.invokevirtual 40, 3) := by decide +kernel
theorem d_L_move_8 : decode b_L_move 8 = .ok (.i2l, 1) := by decide +kernel
theorem d_L_move_9 : decode b_L_move 9 = .ok (.lastore, 1) := by decide +kernel
theorem d_L_move_10 : decode b_L_move 10 = .ok (.goto 7, 3) := by decide +kernel
theorem d_L_move_13 : decode b_L_move 13 = .ok (.astore 4, 2) := by decide +kernel
theorem d_L_move_15 : decode b_L_move 15 = .ok (.iconst 1, 1) := by decide +kernel
theorem d_L_move_16 : decode b_L_move 16 = .ok (.ireturn, 1) := by decide +kernel
theorem d_L_move_17 : decode b_L_move 17 = .ok (.iconst 0, 1) := by decide +kernel
theorem d_L_move_18 : decode b_L_move 18 = .ok (.ireturn, 1) := by decide +kernel
theorem d_L_sift_0 : decode b_L_sift 0 = .ok (.aload_n 2, 1) := by decide +kernel
theorem d_L_sift_1 : decode b_L_sift 1 = .ok (.iconst 0, 1) := by decide +kernel
theorem d_L_sift_2 : decode b_L_sift 2 = .ok (.aload_n 0, 1) := by decide +kernel
theorem d_L_sift_3 : decode b_L_sift 3 = .ok (.iload_n 1, 1) := by decide +kernel
theorem d_L_sift_4 : decode b_L_sift 4 = .ok (.invokevirtual 44, 3) := by decide +kernel
theorem d_L_sift_7 : decode b_L_sift 7 = .ok (.i2l, 1) := by decide +kernel
theorem d_L_sift_8 : decode b_L_sift 8 = .ok (.lastore, 1) := by decide +kernel
theorem d_L_sift_9 : decode b_L_sift 9 = .ok (.goto 6, 3) := by decide +kernel
theorem d_L_sift_12 : decode b_L_sift 12 = .ok (.astore_n 3, 1) := by decide +kernel
theorem d_L_sift_13 : decode b_L_sift 13 = .ok (.iconst 1, 1) := by decide +kernel
theorem d_L_sift_14 : decode b_L_sift 14 = .ok (.ireturn, 1) := by decide +kernel
theorem d_L_sift_15 : decode b_L_sift 15 = .ok (.iconst 0, 1) := by decide +kernel
theorem d_L_sift_16 : decode b_L_sift 16 = .ok (.ireturn, 1) := by decide +kernel
theorem d_L_order_0 : decode b_L_order 0 = .ok (.aload_n 2, 1) := by decide +kernel
theorem d_L_order_1 : decode b_L_order 1 = .ok (.iconst 0, 1) := by decide +kernel
theorem d_L_order_2 : decode b_L_order 2 = .ok (.aload_n 0, 1) := by decide +kernel
theorem d_L_order_3 : decode b_L_order 3 = .ok (.iload_n 1, 1) := by decide +kernel
theorem d_L_order_4 : decode b_L_order 4 = .ok (.invokevirtual 48, 3) := by decide +kernel
theorem d_L_order_7 : decode b_L_order 7 = .ok (.i2l, 1) := by decide +kernel
theorem d_L_order_8 : decode b_L_order 8 = .ok (.lastore, 1) := by decide +kernel
theorem d_L_order_9 : decode b_L_order 9 = .ok (.goto 6, 3) := by decide +kernel
theorem d_L_order_12 : decode b_L_order 12 = .ok (.astore_n 3, 1) := by decide +kernel
theorem d_L_order_13 : decode b_L_order 13 = .ok (.iconst 1, 1) := by decide +kernel
theorem d_L_order_14 : decode b_L_order 14 = .ok (.ireturn, 1) := by decide +kernel
theorem d_L_order_15 : decode b_L_order 15 = .ok (.iconst 0, 1) := by decide +kernel
theorem d_L_order_16 : decode b_L_order 16 = .ok (.ireturn, 1) := by decide +kernel
theorem d_L_size_0 : decode b_L_size 0 = .ok (.aload_n 2, 1) := by decide +kernel
theorem d_L_size_1 : decode b_L_size 1 = .ok (.iconst 0, 1) := by decide +kernel
theorem d_L_size_2 : decode b_L_size 2 = .ok (.aload_n 0, 1) := by decide +kernel
theorem d_L_size_3 : decode b_L_size 3 = .ok (.iload_n 1, 1) := by decide +kernel
theorem d_L_size_4 : decode b_L_size 4 = .ok (.invokevirtual 51, 3) := by decide +kernel
theorem d_L_size_7 : decode b_L_size 7 = .ok (.i2l, 1) := by decide +kernel
theorem d_L_size_8 : decode b_L_size 8 = .ok (.lastore, 1) := by decide +kernel
theorem d_L_size_9 : decode b_L_size 9 = .ok (.goto 6, 3) := by decide +kernel
theorem d_L_size_12 : decode b_L_size 12 = .ok (.astore_n 3, 1) := by decide +kernel
theorem d_L_size_13 : decode b_L_size 13 = .ok (.iconst 1, 1) := by decide +kernel
theorem d_L_size_14 : decode b_L_size 14 = .ok (.ireturn, 1) := by decide +kernel
theorem d_L_size_15 : decode b_L_size 15 = .ok (.iconst 0, 1) := by decide +kernel
theorem d_L_size_16 : decode b_L_size 16 = .ok (.ireturn, 1) := by decide +kernel
theorem d_L_count_0 : decode b_L_count 0 = .ok (.aload_n 2, 1) := by decide +kernel
theorem d_L_count_1 : decode b_L_count 1 = .ok (.iconst 0, 1) := by decide +kernel
theorem d_L_count_2 : decode b_L_count 2 = .ok (.aload_n 0, 1) := by decide +kernel
theorem d_L_count_3 : decode b_L_count 3 = .ok (.iload_n 1, 1) := by decide +kernel
theorem d_L_count_4 : decode b_L_count 4 = .ok (.invokevirtual 54, 3) := by decide +kernel
theorem d_L_count_7 : decode b_L_count 7 = .ok (.i2l, 1) := by decide +kernel
theorem d_L_count_8 : decode b_L_count 8 = .ok (.lastore, 1) := by decide +kernel
theorem d_L_count_9 : decode b_L_count 9 = .ok (.goto 6, 3) := by decide +kernel
theorem d_L_count_12 : decode b_L_count 12 = .ok (.astore_n 3, 1) := by decide +kernel
theorem d_L_count_13 : decode b_L_count 13 = .ok (.iconst 1, 1) := by decide +kernel
theorem d_L_count_14 : decode b_L_count 14 = .ok (.ireturn, 1) := by decide +kernel
theorem d_L_count_15 : decode b_L_count 15 = .ok (.iconst 0, 1) := by decide +kernel
theorem d_L_count_16 : decode b_L_count 16 = .ok (.ireturn, 1) := by decide +kernel
theorem d_L_value_0 : decode b_L_value 0 = .ok (.aload_n 3, 1) := by decide +kernel
theorem d_L_value_1 : decode b_L_value 1 = .ok (.iconst 0, 1) := by decide +kernel
theorem d_L_value_2 : decode b_L_value 2 = .ok (.aload_n 0, 1) := by decide +kernel
theorem d_L_value_3 : decode b_L_value 3 = .ok (.iload_n 1, 1) := by decide +kernel
theorem d_L_value_4 : decode b_L_value 4 = .ok (.iload_n 2, 1) := by decide +kernel
theorem d_L_value_5 : decode b_L_value 5 = .ok (.invokevirtual 57, 3) := by decide +kernel
theorem d_L_value_8 : decode b_L_value 8 = .ok (.ifCond .eq 7, 3) := by decide +kernel
theorem d_L_value_11 : decode b_L_value 11 = .ok (.lconst 1, 1) := by decide +kernel
theorem d_L_value_12 : decode b_L_value 12 = .ok (.goto 4, 3) := by decide +kernel
theorem d_L_value_15 : decode b_L_value 15 = .ok (.lconst 0, 1) := by decide +kernel
theorem d_L_value_16 : decode b_L_value 16 = .ok (.lastore, 1) := by decide +kernel
theorem d_L_value_17 : decode b_L_value 17 = .ok (.goto 11, 3) := by decide +kernel
theorem d_L_value_20 : decode b_L_value 20 = .ok (.astore 4, 2) := by decide +kernel
theorem d_L_value_22 : decode b_L_value 22 = .ok (.iconst 1, 1) := by decide +kernel
theorem d_L_value_23 : decode b_L_value 23 = .ok (.ireturn, 1) := by decide +kernel
theorem d_L_value_24 : decode b_L_value 24 = .ok (.astore 4, 2) := by decide +kernel
theorem d_L_value_26 : decode b_L_value 26 = .ok (.iconst 2, 1) := by decide +kernel
theorem d_L_value_27 : decode b_L_value 27 = .ok (.ireturn, 1) := by decide +kernel
theorem d_L_value_28 : decode b_L_value 28 = .ok (.iconst 0, 1) := by decide +kernel
theorem d_L_value_29 : decode b_L_value 29 = .ok (.ireturn, 1) := by decide +kernel
theorem d_L_least_0 : decode b_L_least 0 = .ok (.aload_n 2, 1) := by decide +kernel
theorem d_L_least_1 : decode b_L_least 1 = .ok (.iconst 0, 1) := by decide +kernel
theorem d_L_least_2 : decode b_L_least 2 = .ok (.aload_n 0, 1) := by decide +kernel
theorem d_L_least_3 : decode b_L_least 3 = .ok (.iload_n 1, 1) := by decide +kernel
theorem d_L_least_4 : decode b_L_least 4 = .ok (.invokevirtual 61, 3) := by decide +kernel
theorem d_L_least_7 : decode b_L_least 7 = .ok (.i2l, 1) := by decide +kernel
theorem d_L_least_8 : decode b_L_least 8 = .ok (.lastore, 1) := by decide +kernel
theorem d_L_least_9 : decode b_L_least 9 = .ok (.goto 6, 3) := by decide +kernel
theorem d_L_least_12 : decode b_L_least 12 = .ok (.astore_n 3, 1) := by decide +kernel
theorem d_L_least_13 : decode b_L_least 13 = .ok (.iconst 1, 1) := by decide +kernel
theorem d_L_least_14 : decode b_L_least 14 = .ok (.ireturn, 1) := by decide +kernel
theorem d_L_least_15 : decode b_L_least 15 = .ok (.iconst 0, 1) := by decide +kernel
theorem d_L_least_16 : decode b_L_least 16 = .ok (.ireturn, 1) := by decide +kernel
theorem d_L_support_0 : decode b_L_support 0 = .ok (.aload_n 2, 1) := by decide +kernel
theorem d_L_support_1 : decode b_L_support 1 = .ok (.iconst 0, 1) := by decide +kernel
theorem d_L_support_2 : decode b_L_support 2 = .ok (.aload_n 0, 1) := by decide +kernel
theorem d_L_support_3 : decode b_L_support 3 = .ok (.iload_n 1, 1) := by decide +kernel
theorem d_L_support_4 : decode b_L_support 4 = .ok (.invokevirtual 64, 3) := by decide +kernel
theorem d_L_support_7 : decode b_L_support 7 = .ok (.i2l, 1) := by decide +kernel
theorem d_L_support_8 : decode b_L_support 8 = .ok (.lastore, 1) := by decide +kernel
theorem d_L_support_9 : decode b_L_support 9 = .ok (.goto 6, 3) := by decide +kernel
theorem d_L_support_12 : decode b_L_support 12 = .ok (.astore_n 3, 1) := by decide +kernel
theorem d_L_support_13 : decode b_L_support 13 = .ok (.iconst 1, 1) := by decide +kernel
theorem d_L_support_14 : decode b_L_support 14 = .ok (.ireturn, 1) := by decide +kernel
theorem d_L_support_15 : decode b_L_support 15 = .ok (.iconst 0, 1) := by decide +kernel
theorem d_L_support_16 : decode b_L_support 16 = .ok (.ireturn, 1) := by decide +kernel
theorem d_L_alike_0 : decode b_L_alike 0 = .ok (.aload_n 3, 1) := by decide +kernel
theorem d_L_alike_1 : decode b_L_alike 1 = .ok (.iconst 0, 1) := by decide +kernel
theorem d_L_alike_2 : decode b_L_alike 2 = .ok (.aload_n 0, 1) := by decide +kernel
theorem d_L_alike_3 : decode b_L_alike 3 = .ok (.iload_n 1, 1) := by decide +kernel
theorem d_L_alike_4 : decode b_L_alike 4 = .ok (.iload_n 2, 1) := by decide +kernel
theorem d_L_alike_5 : decode b_L_alike 5 = .ok (.invokevirtual 67, 3) := by decide +kernel
theorem d_L_alike_8 : decode b_L_alike 8 = .ok (.ifCond .eq 7, 3) := by decide +kernel
theorem d_L_alike_11 : decode b_L_alike 11 = .ok (.lconst 1, 1) := by decide +kernel
theorem d_L_alike_12 : decode b_L_alike 12 = .ok (.goto 4, 3) := by decide +kernel
theorem d_L_alike_15 : decode b_L_alike 15 = .ok (.lconst 0, 1) := by decide +kernel
theorem d_L_alike_16 : decode b_L_alike 16 = .ok (.lastore, 1) := by decide +kernel
theorem d_L_alike_17 : decode b_L_alike 17 = .ok (.goto 7, 3) := by decide +kernel
theorem d_L_alike_20 : decode b_L_alike 20 = .ok (.astore 4, 2) := by decide +kernel
theorem d_L_alike_22 : decode b_L_alike 22 = .ok (.iconst 1, 1) := by decide +kernel
theorem d_L_alike_23 : decode b_L_alike 23 = .ok (.ireturn, 1) := by decide +kernel
theorem d_L_alike_24 : decode b_L_alike 24 = .ok (.iconst 0, 1) := by decide +kernel
theorem d_L_alike_25 : decode b_L_alike 25 = .ok (.ireturn, 1) := by decide +kernel
theorem d_L_asked_0 : decode b_L_asked 0 = .ok (.aload 4, 2) := by decide +kernel
theorem d_L_asked_2 : decode b_L_asked 2 = .ok (.iconst 0, 1) := by decide +kernel
theorem d_L_asked_3 : decode b_L_asked 3 = .ok (.aload_n 0, 1) := by decide +kernel
theorem d_L_asked_4 : decode b_L_asked 4 = .ok (.iload_n 1, 1) := by decide +kernel
theorem d_L_asked_5 : decode b_L_asked 5 = .ok (.iload_n 2, 1) := by decide +kernel
theorem d_L_asked_6 : decode b_L_asked 6 = .ok (.iload_n 3, 1) := by decide +kernel
theorem d_L_asked_7 : decode b_L_asked 7 = .ok (.invokevirtual 70, 3) := by decide +kernel
theorem d_L_asked_10 : decode b_L_asked 10 = .ok (.i2l, 1) := by decide +kernel
theorem d_L_asked_11 : decode b_L_asked 11 = .ok (.lastore, 1) := by decide +kernel
theorem d_L_asked_12 : decode b_L_asked 12 = .ok (.goto 11, 3) := by decide +kernel
theorem d_L_asked_15 : decode b_L_asked 15 = .ok (.astore 5, 2) := by decide +kernel
theorem d_L_asked_17 : decode b_L_asked 17 = .ok (.iconst 1, 1) := by decide +kernel
theorem d_L_asked_18 : decode b_L_asked 18 = .ok (.ireturn, 1) := by decide +kernel
theorem d_L_asked_19 : decode b_L_asked 19 = .ok (.astore 5, 2) := by decide +kernel
theorem d_L_asked_21 : decode b_L_asked 21 = .ok (.iconst 2, 1) := by decide +kernel
theorem d_L_asked_22 : decode b_L_asked 22 = .ok (.ireturn, 1) := by decide +kernel
theorem d_L_asked_23 : decode b_L_asked 23 = .ok (.iconst 0, 1) := by decide +kernel
theorem d_L_asked_24 : decode b_L_asked 24 = .ok (.ireturn, 1) := by decide +kernel
theorem d_L_questions_0 : decode b_L_questions 0 = .ok (.aload_n 2, 1) := by decide +kernel
theorem d_L_questions_1 : decode b_L_questions 1 = .ok (.iconst 0, 1) := by decide +kernel
theorem d_L_questions_2 : decode b_L_questions 2 = .ok (.aload_n 0, 1) := by decide +kernel
theorem d_L_questions_3 : decode b_L_questions 3 = .ok (.iload_n 1, 1) := by decide +kernel
theorem d_L_questions_4 : decode b_L_questions 4 = .ok (.invokevirtual 74, 3) := by decide +kernel
theorem d_L_questions_7 : decode b_L_questions 7 = .ok (.i2l, 1) := by decide +kernel
theorem d_L_questions_8 : decode b_L_questions 8 = .ok (.lastore, 1) := by decide +kernel
theorem d_L_questions_9 : decode b_L_questions 9 = .ok (.goto 6, 3) := by decide +kernel
theorem d_L_questions_12 : decode b_L_questions 12 = .ok (.astore_n 3, 1) := by decide +kernel
theorem d_L_questions_13 : decode b_L_questions 13 = .ok (.iconst 1, 1) := by decide +kernel
theorem d_L_questions_14 : decode b_L_questions 14 = .ok (.ireturn, 1) := by decide +kernel
theorem d_L_questions_15 : decode b_L_questions 15 = .ok (.iconst 0, 1) := by decide +kernel
theorem d_L_questions_16 : decode b_L_questions 16 = .ok (.ireturn, 1) := by decide +kernel
theorem d_L_law_0 : decode b_L_law 0 = .ok (.new 8, 3) := by decide +kernel
theorem d_L_law_3 : decode b_L_law 3 = .ok (.dup, 1) := by decide +kernel
theorem d_L_law_4 : decode b_L_law 4 = .ok (.invokespecial 77, 3) := by decide +kernel
theorem d_L_law_7 : decode b_L_law 7 = .ok (.astore_n 1, 1) := by decide +kernel
theorem d_L_law_8 : decode b_L_law 8 = .ok (.new 78, 3) := by decide +kernel
theorem d_L_law_11 : decode b_L_law 11 = .ok (.dup, 1) := by decide +kernel
theorem d_L_law_12 : decode b_L_law 12 = .ok (.invokespecial 80, 3) := by decide +kernel
theorem d_L_law_15 : decode b_L_law 15 = .ok (.astore_n 2, 1) := by decide +kernel
theorem d_L_law_16 : decode b_L_law 16 = .ok (.iconst 1, 1) := by decide +kernel
theorem d_L_law_17 : decode b_L_law 17 = .ok (.newarray .long, 2) := by decide +kernel
theorem d_L_law_19 : decode b_L_law 19 = .ok (.astore_n 3, 1) := by decide +kernel
theorem d_L_law_20 : decode b_L_law 20 = .ok (.iconst 0, 1) := by decide +kernel
theorem d_L_law_21 : decode b_L_law 21 = .ok (.istore 4, 2) := by decide +kernel
theorem d_L_law_23 : decode b_L_law 23 = .ok (.iload 4, 2) := by decide +kernel
theorem d_L_law_25 : decode b_L_law 25 = .ok (.aload_n 0, 1) := by decide +kernel
theorem d_L_law_26 : decode b_L_law 26 = .ok (.arraylength, 1) := by decide +kernel
theorem d_L_law_27 : decode b_L_law 27 = .ok (.iconst 5, 1) := by decide +kernel
theorem d_L_law_28 : decode b_L_law 28 = .ok (.isub, 1) := by decide +kernel
theorem d_L_law_29 : decode b_L_law 29 = .ok (.if_icmp .gt 1356, 3) := by decide +kernel
theorem d_L_law_32 : decode b_L_law 32 = .ok (.aload_n 0, 1) := by decide +kernel
theorem d_L_law_33 : decode b_L_law 33 = .ok (.iload 4, 2) := by decide +kernel
theorem d_L_law_35 : decode b_L_law 35 = .ok (.iaload, 1) := by decide +kernel
theorem d_L_law_36 : decode b_L_law 36 = .ok (.bipush 31, 2) := by decide +kernel
theorem d_L_law_38 : decode b_L_law 38 = .ok (.iand, 1) := by decide +kernel
theorem d_L_law_39 : decode b_L_law 39 = .ok (.tableswitch 1340 0 19 #[93, 141, 189, 261, 333, 405, 477, 565, 637, 705, 761, 774, 830, 886, 942, 1017, 1073, 1129, 1204, 1284], 93) := by decide +kernel
theorem d_L_law_132 : decode b_L_law 132 = .ok (.aload_n 1, 1) := by decide +kernel
theorem d_L_law_133 : decode b_L_law 133 = .ok (.aload_n 0, 1) := by decide +kernel
theorem d_L_law_134 : decode b_L_law 134 = .ok (.iload 4, 2) := by decide +kernel
theorem d_L_law_136 : decode b_L_law 136 = .ok (.iconst 1, 1) := by decide +kernel
theorem d_L_law_137 : decode b_L_law 137 = .ok (.iadd, 1) := by decide +kernel
theorem d_L_law_138 : decode b_L_law 138 = .ok (.iaload, 1) := by decide +kernel
theorem d_L_law_139 : decode b_L_law 139 = .ok (.aload_n 0, 1) := by decide +kernel
theorem d_L_law_140 : decode b_L_law 140 = .ok (.iload 4, 2) := by decide +kernel
theorem d_L_law_142 : decode b_L_law 142 = .ok (.iconst 2, 1) := by decide +kernel
theorem d_L_law_143 : decode b_L_law 143 = .ok (.iadd, 1) := by decide +kernel
theorem d_L_law_144 : decode b_L_law 144 = .ok (.iaload, 1) := by decide +kernel
theorem d_L_law_145 : decode b_L_law 145 = .ok (.invokestatic 81, 3) := by decide +kernel
theorem d_L_law_148 : decode b_L_law 148 = .ok (.istore 5, 2) := by decide +kernel
theorem d_L_law_150 : decode b_L_law 150 = .ok (.aload_n 2, 1) := by decide +kernel
theorem d_L_law_151 : decode b_L_law 151 = .ok (.aload_n 0, 1) := by decide +kernel
theorem d_L_law_152 : decode b_L_law 152 = .ok (.iload 4, 2) := by decide +kernel
theorem d_L_law_154 : decode b_L_law 154 = .ok (.iconst 1, 1) := by decide +kernel
theorem d_L_law_155 : decode b_L_law 155 = .ok (.iadd, 1) := by decide +kernel
theorem d_L_law_156 : decode b_L_law 156 = .ok (.iaload, 1) := by decide +kernel
theorem d_L_law_157 : decode b_L_law 157 = .ok (.aload_n 0, 1) := by decide +kernel
theorem d_L_law_158 : decode b_L_law 158 = .ok (.iload 4, 2) := by decide +kernel
theorem d_L_law_160 : decode b_L_law 160 = .ok (.iconst 2, 1) := by decide +kernel
theorem d_L_law_161 : decode b_L_law 161 = .ok (.iadd, 1) := by decide +kernel
theorem d_L_law_162 : decode b_L_law 162 = .ok (.iaload, 1) := by decide +kernel
theorem d_L_law_163 : decode b_L_law 163 = .ok (.invokevirtual 86, 3) := by decide +kernel
theorem d_L_law_166 : decode b_L_law 166 = .ok (.aload_n 2, 1) := by decide +kernel
theorem d_L_law_167 : decode b_L_law 167 = .ok (.invokevirtual 87, 3) := by decide +kernel
theorem d_L_law_170 : decode b_L_law 170 = .ok (.iload 5, 2) := by decide +kernel
theorem d_L_law_172 : decode b_L_law 172 = .ok (.if_icmp .eq 5, 3) := by decide +kernel
theorem d_L_law_175 : decode b_L_law 175 = .ok (.iconst 0, 1) := by decide +kernel
theorem d_L_law_176 : decode b_L_law 176 = .ok (.ireturn, 1) := by decide +kernel
theorem d_L_law_177 : decode b_L_law 177 = .ok (.goto 1202, 3) := by decide +kernel
theorem d_L_law_180 : decode b_L_law 180 = .ok (.aload_n 1, 1) := by decide +kernel
theorem d_L_law_181 : decode b_L_law 181 = .ok (.aload_n 0, 1) := by decide +kernel
theorem d_L_law_182 : decode b_L_law 182 = .ok (.iload 4, 2) := by decide +kernel
theorem d_L_law_184 : decode b_L_law 184 = .ok (.iconst 1, 1) := by decide +kernel
theorem d_L_law_185 : decode b_L_law 185 = .ok (.iadd, 1) := by decide +kernel
theorem d_L_law_186 : decode b_L_law 186 = .ok (.iaload, 1) := by decide +kernel
theorem d_L_law_187 : decode b_L_law 187 = .ok (.aload_n 0, 1) := by decide +kernel
theorem d_L_law_188 : decode b_L_law 188 = .ok (.iload 4, 2) := by decide +kernel
theorem d_L_law_190 : decode b_L_law 190 = .ok (.iconst 2, 1) := by decide +kernel
theorem d_L_law_191 : decode b_L_law 191 = .ok (.iadd, 1) := by decide +kernel
theorem d_L_law_192 : decode b_L_law 192 = .ok (.iaload, 1) := by decide +kernel
theorem d_L_law_193 : decode b_L_law 193 = .ok (.invokestatic 91, 3) := by decide +kernel
theorem d_L_law_196 : decode b_L_law 196 = .ok (.istore 5, 2) := by decide +kernel
theorem d_L_law_198 : decode b_L_law 198 = .ok (.aload_n 2, 1) := by decide +kernel
theorem d_L_law_199 : decode b_L_law 199 = .ok (.aload_n 0, 1) := by decide +kernel
theorem d_L_law_200 : decode b_L_law 200 = .ok (.iload 4, 2) := by decide +kernel
theorem d_L_law_202 : decode b_L_law 202 = .ok (.iconst 1, 1) := by decide +kernel
theorem d_L_law_203 : decode b_L_law 203 = .ok (.iadd, 1) := by decide +kernel
theorem d_L_law_204 : decode b_L_law 204 = .ok (.iaload, 1) := by decide +kernel
theorem d_L_law_205 : decode b_L_law 205 = .ok (.aload_n 0, 1) := by decide +kernel
theorem d_L_law_206 : decode b_L_law 206 = .ok (.iload 4, 2) := by decide +kernel
theorem d_L_law_208 : decode b_L_law 208 = .ok (.iconst 2, 1) := by decide +kernel
theorem d_L_law_209 : decode b_L_law 209 = .ok (.iadd, 1) := by decide +kernel
theorem d_L_law_210 : decode b_L_law 210 = .ok (.iaload, 1) := by decide +kernel
theorem d_L_law_211 : decode b_L_law 211 = .ok (.invokevirtual 93, 3) := by decide +kernel
theorem d_L_law_214 : decode b_L_law 214 = .ok (.aload_n 2, 1) := by decide +kernel
theorem d_L_law_215 : decode b_L_law 215 = .ok (.invokevirtual 87, 3) := by decide +kernel
theorem d_L_law_218 : decode b_L_law 218 = .ok (.iload 5, 2) := by decide +kernel
theorem d_L_law_220 : decode b_L_law 220 = .ok (.if_icmp .eq 5, 3) := by decide +kernel
theorem d_L_law_223 : decode b_L_law 223 = .ok (.iconst 0, 1) := by decide +kernel
theorem d_L_law_224 : decode b_L_law 224 = .ok (.ireturn, 1) := by decide +kernel
theorem d_L_law_225 : decode b_L_law 225 = .ok (.goto 1154, 3) := by decide +kernel
theorem d_L_law_228 : decode b_L_law 228 = .ok (.aload_n 1, 1) := by decide +kernel
theorem d_L_law_229 : decode b_L_law 229 = .ok (.aload_n 0, 1) := by decide +kernel
theorem d_L_law_230 : decode b_L_law 230 = .ok (.iload 4, 2) := by decide +kernel
theorem d_L_law_232 : decode b_L_law 232 = .ok (.iconst 1, 1) := by decide +kernel
theorem d_L_law_233 : decode b_L_law 233 = .ok (.iadd, 1) := by decide +kernel
theorem d_L_law_234 : decode b_L_law 234 = .ok (.iaload, 1) := by decide +kernel
theorem d_L_law_235 : decode b_L_law 235 = .ok (.aload_n 0, 1) := by decide +kernel
theorem d_L_law_236 : decode b_L_law 236 = .ok (.iload 4, 2) := by decide +kernel
theorem d_L_law_238 : decode b_L_law 238 = .ok (.iconst 2, 1) := by decide +kernel
theorem d_L_law_239 : decode b_L_law 239 = .ok (.iadd, 1) := by decide +kernel
theorem d_L_law_240 : decode b_L_law 240 = .ok (.iaload, 1) := by decide +kernel
theorem d_L_law_241 : decode b_L_law 241 = .ok (.aload_n 0, 1) := by decide +kernel
theorem d_L_law_242 : decode b_L_law 242 = .ok (.iload 4, 2) := by decide +kernel
theorem d_L_law_244 : decode b_L_law 244 = .ok (.iconst 3, 1) := by decide +kernel
theorem d_L_law_245 : decode b_L_law 245 = .ok (.iadd, 1) := by decide +kernel
theorem d_L_law_246 : decode b_L_law 246 = .ok (.iaload, 1) := by decide +kernel
theorem d_L_law_247 : decode b_L_law 247 = .ok (.aload_n 0, 1) := by decide +kernel
theorem d_L_law_248 : decode b_L_law 248 = .ok (.iload 4, 2) := by decide +kernel
theorem d_L_law_250 : decode b_L_law 250 = .ok (.iconst 4, 1) := by decide +kernel
theorem d_L_law_251 : decode b_L_law 251 = .ok (.iadd, 1) := by decide +kernel
theorem d_L_law_252 : decode b_L_law 252 = .ok (.iaload, 1) := by decide +kernel
theorem d_L_law_253 : decode b_L_law 253 = .ok (.invokestatic 94, 3) := by decide +kernel
theorem d_L_law_256 : decode b_L_law 256 = .ok (.istore 5, 2) := by decide +kernel
theorem d_L_law_258 : decode b_L_law 258 = .ok (.aload_n 2, 1) := by decide +kernel
theorem d_L_law_259 : decode b_L_law 259 = .ok (.aload_n 0, 1) := by decide +kernel
theorem d_L_law_260 : decode b_L_law 260 = .ok (.iload 4, 2) := by decide +kernel
theorem d_L_law_262 : decode b_L_law 262 = .ok (.iconst 1, 1) := by decide +kernel
theorem d_L_law_263 : decode b_L_law 263 = .ok (.iadd, 1) := by decide +kernel
theorem d_L_law_264 : decode b_L_law 264 = .ok (.iaload, 1) := by decide +kernel
theorem d_L_law_265 : decode b_L_law 265 = .ok (.aload_n 0, 1) := by decide +kernel
theorem d_L_law_266 : decode b_L_law 266 = .ok (.iload 4, 2) := by decide +kernel
theorem d_L_law_268 : decode b_L_law 268 = .ok (.iconst 2, 1) := by decide +kernel
theorem d_L_law_269 : decode b_L_law 269 = .ok (.iadd, 1) := by decide +kernel
theorem d_L_law_270 : decode b_L_law 270 = .ok (.iaload, 1) := by decide +kernel
theorem d_L_law_271 : decode b_L_law 271 = .ok (.aload_n 0, 1) := by decide +kernel
theorem d_L_law_272 : decode b_L_law 272 = .ok (.iload 4, 2) := by decide +kernel
theorem d_L_law_274 : decode b_L_law 274 = .ok (.iconst 3, 1) := by decide +kernel
theorem d_L_law_275 : decode b_L_law 275 = .ok (.iadd, 1) := by decide +kernel
theorem d_L_law_276 : decode b_L_law 276 = .ok (.iaload, 1) := by decide +kernel
theorem d_L_law_277 : decode b_L_law 277 = .ok (.aload_n 0, 1) := by decide +kernel
theorem d_L_law_278 : decode b_L_law 278 = .ok (.iload 4, 2) := by decide +kernel
theorem d_L_law_280 : decode b_L_law 280 = .ok (.iconst 4, 1) := by decide +kernel
theorem d_L_law_281 : decode b_L_law 281 = .ok (.iadd, 1) := by decide +kernel
theorem d_L_law_282 : decode b_L_law 282 = .ok (.iaload, 1) := by decide +kernel
theorem d_L_law_283 : decode b_L_law 283 = .ok (.invokevirtual 97, 3) := by decide +kernel
theorem d_L_law_286 : decode b_L_law 286 = .ok (.aload_n 2, 1) := by decide +kernel
theorem d_L_law_287 : decode b_L_law 287 = .ok (.invokevirtual 87, 3) := by decide +kernel
theorem d_L_law_290 : decode b_L_law 290 = .ok (.iload 5, 2) := by decide +kernel
theorem d_L_law_292 : decode b_L_law 292 = .ok (.if_icmp .eq 5, 3) := by decide +kernel
theorem d_L_law_295 : decode b_L_law 295 = .ok (.iconst 0, 1) := by decide +kernel
theorem d_L_law_296 : decode b_L_law 296 = .ok (.ireturn, 1) := by decide +kernel
theorem d_L_law_297 : decode b_L_law 297 = .ok (.goto 1082, 3) := by decide +kernel
theorem d_L_law_300 : decode b_L_law 300 = .ok (.aload_n 1, 1) := by decide +kernel
theorem d_L_law_301 : decode b_L_law 301 = .ok (.aload_n 0, 1) := by decide +kernel
theorem d_L_law_302 : decode b_L_law 302 = .ok (.iload 4, 2) := by decide +kernel
theorem d_L_law_304 : decode b_L_law 304 = .ok (.iconst 1, 1) := by decide +kernel
theorem d_L_law_305 : decode b_L_law 305 = .ok (.iadd, 1) := by decide +kernel
theorem d_L_law_306 : decode b_L_law 306 = .ok (.iaload, 1) := by decide +kernel
theorem d_L_law_307 : decode b_L_law 307 = .ok (.aload_n 0, 1) := by decide +kernel
theorem d_L_law_308 : decode b_L_law 308 = .ok (.iload 4, 2) := by decide +kernel
theorem d_L_law_310 : decode b_L_law 310 = .ok (.iconst 2, 1) := by decide +kernel
theorem d_L_law_311 : decode b_L_law 311 = .ok (.iadd, 1) := by decide +kernel
theorem d_L_law_312 : decode b_L_law 312 = .ok (.iaload, 1) := by decide +kernel
theorem d_L_law_313 : decode b_L_law 313 = .ok (.aload_n 0, 1) := by decide +kernel
theorem d_L_law_314 : decode b_L_law 314 = .ok (.iload 4, 2) := by decide +kernel
theorem d_L_law_316 : decode b_L_law 316 = .ok (.iconst 3, 1) := by decide +kernel
theorem d_L_law_317 : decode b_L_law 317 = .ok (.iadd, 1) := by decide +kernel
theorem d_L_law_318 : decode b_L_law 318 = .ok (.iaload, 1) := by decide +kernel
theorem d_L_law_319 : decode b_L_law 319 = .ok (.aload_n 0, 1) := by decide +kernel
theorem d_L_law_320 : decode b_L_law 320 = .ok (.iload 4, 2) := by decide +kernel
theorem d_L_law_322 : decode b_L_law 322 = .ok (.iconst 4, 1) := by decide +kernel
theorem d_L_law_323 : decode b_L_law 323 = .ok (.iadd, 1) := by decide +kernel
theorem d_L_law_324 : decode b_L_law 324 = .ok (.iaload, 1) := by decide +kernel
theorem d_L_law_325 : decode b_L_law 325 = .ok (.invokestatic 98, 3) := by decide +kernel
theorem d_L_law_328 : decode b_L_law 328 = .ok (.istore 5, 2) := by decide +kernel
theorem d_L_law_330 : decode b_L_law 330 = .ok (.aload_n 2, 1) := by decide +kernel
theorem d_L_law_331 : decode b_L_law 331 = .ok (.aload_n 0, 1) := by decide +kernel
theorem d_L_law_332 : decode b_L_law 332 = .ok (.iload 4, 2) := by decide +kernel
theorem d_L_law_334 : decode b_L_law 334 = .ok (.iconst 1, 1) := by decide +kernel
theorem d_L_law_335 : decode b_L_law 335 = .ok (.iadd, 1) := by decide +kernel
theorem d_L_law_336 : decode b_L_law 336 = .ok (.iaload, 1) := by decide +kernel
theorem d_L_law_337 : decode b_L_law 337 = .ok (.aload_n 0, 1) := by decide +kernel
theorem d_L_law_338 : decode b_L_law 338 = .ok (.iload 4, 2) := by decide +kernel
theorem d_L_law_340 : decode b_L_law 340 = .ok (.iconst 2, 1) := by decide +kernel
theorem d_L_law_341 : decode b_L_law 341 = .ok (.iadd, 1) := by decide +kernel
theorem d_L_law_342 : decode b_L_law 342 = .ok (.iaload, 1) := by decide +kernel
theorem d_L_law_343 : decode b_L_law 343 = .ok (.aload_n 0, 1) := by decide +kernel
theorem d_L_law_344 : decode b_L_law 344 = .ok (.iload 4, 2) := by decide +kernel
theorem d_L_law_346 : decode b_L_law 346 = .ok (.iconst 3, 1) := by decide +kernel
theorem d_L_law_347 : decode b_L_law 347 = .ok (.iadd, 1) := by decide +kernel
theorem d_L_law_348 : decode b_L_law 348 = .ok (.iaload, 1) := by decide +kernel
theorem d_L_law_349 : decode b_L_law 349 = .ok (.aload_n 0, 1) := by decide +kernel
theorem d_L_law_350 : decode b_L_law 350 = .ok (.iload 4, 2) := by decide +kernel
theorem d_L_law_352 : decode b_L_law 352 = .ok (.iconst 4, 1) := by decide +kernel
theorem d_L_law_353 : decode b_L_law 353 = .ok (.iadd, 1) := by decide +kernel
theorem d_L_law_354 : decode b_L_law 354 = .ok (.iaload, 1) := by decide +kernel
theorem d_L_law_355 : decode b_L_law 355 = .ok (.invokevirtual 100, 3) := by decide +kernel
theorem d_L_law_358 : decode b_L_law 358 = .ok (.aload_n 2, 1) := by decide +kernel
theorem d_L_law_359 : decode b_L_law 359 = .ok (.invokevirtual 87, 3) := by decide +kernel
theorem d_L_law_362 : decode b_L_law 362 = .ok (.iload 5, 2) := by decide +kernel
theorem d_L_law_364 : decode b_L_law 364 = .ok (.if_icmp .eq 5, 3) := by decide +kernel
theorem d_L_law_367 : decode b_L_law 367 = .ok (.iconst 0, 1) := by decide +kernel
theorem d_L_law_368 : decode b_L_law 368 = .ok (.ireturn, 1) := by decide +kernel
theorem d_L_law_369 : decode b_L_law 369 = .ok (.goto 1010, 3) := by decide +kernel
theorem d_L_law_372 : decode b_L_law 372 = .ok (.aload_n 1, 1) := by decide +kernel
theorem d_L_law_373 : decode b_L_law 373 = .ok (.aload_n 0, 1) := by decide +kernel
theorem d_L_law_374 : decode b_L_law 374 = .ok (.iload 4, 2) := by decide +kernel
theorem d_L_law_376 : decode b_L_law 376 = .ok (.iconst 1, 1) := by decide +kernel
theorem d_L_law_377 : decode b_L_law 377 = .ok (.iadd, 1) := by decide +kernel
theorem d_L_law_378 : decode b_L_law 378 = .ok (.iaload, 1) := by decide +kernel
theorem d_L_law_379 : decode b_L_law 379 = .ok (.aload_n 0, 1) := by decide +kernel
theorem d_L_law_380 : decode b_L_law 380 = .ok (.iload 4, 2) := by decide +kernel
theorem d_L_law_382 : decode b_L_law 382 = .ok (.iconst 2, 1) := by decide +kernel
theorem d_L_law_383 : decode b_L_law 383 = .ok (.iadd, 1) := by decide +kernel
theorem d_L_law_384 : decode b_L_law 384 = .ok (.iaload, 1) := by decide +kernel
theorem d_L_law_385 : decode b_L_law 385 = .ok (.aload_n 0, 1) := by decide +kernel
theorem d_L_law_386 : decode b_L_law 386 = .ok (.iload 4, 2) := by decide +kernel
theorem d_L_law_388 : decode b_L_law 388 = .ok (.iconst 3, 1) := by decide +kernel
theorem d_L_law_389 : decode b_L_law 389 = .ok (.iadd, 1) := by decide +kernel
theorem d_L_law_390 : decode b_L_law 390 = .ok (.iaload, 1) := by decide +kernel
theorem d_L_law_391 : decode b_L_law 391 = .ok (.aload_n 0, 1) := by decide +kernel
theorem d_L_law_392 : decode b_L_law 392 = .ok (.iload 4, 2) := by decide +kernel
theorem d_L_law_394 : decode b_L_law 394 = .ok (.iconst 4, 1) := by decide +kernel
theorem d_L_law_395 : decode b_L_law 395 = .ok (.iadd, 1) := by decide +kernel
theorem d_L_law_396 : decode b_L_law 396 = .ok (.iaload, 1) := by decide +kernel
theorem d_L_law_397 : decode b_L_law 397 = .ok (.invokestatic 101, 3) := by decide +kernel
theorem d_L_law_400 : decode b_L_law 400 = .ok (.istore 5, 2) := by decide +kernel
theorem d_L_law_402 : decode b_L_law 402 = .ok (.aload_n 2, 1) := by decide +kernel
theorem d_L_law_403 : decode b_L_law 403 = .ok (.aload_n 0, 1) := by decide +kernel
theorem d_L_law_404 : decode b_L_law 404 = .ok (.iload 4, 2) := by decide +kernel
theorem d_L_law_406 : decode b_L_law 406 = .ok (.iconst 1, 1) := by decide +kernel
theorem d_L_law_407 : decode b_L_law 407 = .ok (.iadd, 1) := by decide +kernel
theorem d_L_law_408 : decode b_L_law 408 = .ok (.iaload, 1) := by decide +kernel
theorem d_L_law_409 : decode b_L_law 409 = .ok (.aload_n 0, 1) := by decide +kernel
theorem d_L_law_410 : decode b_L_law 410 = .ok (.iload 4, 2) := by decide +kernel
theorem d_L_law_412 : decode b_L_law 412 = .ok (.iconst 2, 1) := by decide +kernel
theorem d_L_law_413 : decode b_L_law 413 = .ok (.iadd, 1) := by decide +kernel
theorem d_L_law_414 : decode b_L_law 414 = .ok (.iaload, 1) := by decide +kernel
theorem d_L_law_415 : decode b_L_law 415 = .ok (.aload_n 0, 1) := by decide +kernel
theorem d_L_law_416 : decode b_L_law 416 = .ok (.iload 4, 2) := by decide +kernel
theorem d_L_law_418 : decode b_L_law 418 = .ok (.iconst 3, 1) := by decide +kernel
theorem d_L_law_419 : decode b_L_law 419 = .ok (.iadd, 1) := by decide +kernel
theorem d_L_law_420 : decode b_L_law 420 = .ok (.iaload, 1) := by decide +kernel
theorem d_L_law_421 : decode b_L_law 421 = .ok (.aload_n 0, 1) := by decide +kernel
theorem d_L_law_422 : decode b_L_law 422 = .ok (.iload 4, 2) := by decide +kernel
theorem d_L_law_424 : decode b_L_law 424 = .ok (.iconst 4, 1) := by decide +kernel
theorem d_L_law_425 : decode b_L_law 425 = .ok (.iadd, 1) := by decide +kernel
theorem d_L_law_426 : decode b_L_law 426 = .ok (.iaload, 1) := by decide +kernel
theorem d_L_law_427 : decode b_L_law 427 = .ok (.invokevirtual 103, 3) := by decide +kernel
theorem d_L_law_430 : decode b_L_law 430 = .ok (.aload_n 2, 1) := by decide +kernel
theorem d_L_law_431 : decode b_L_law 431 = .ok (.invokevirtual 87, 3) := by decide +kernel
theorem d_L_law_434 : decode b_L_law 434 = .ok (.iload 5, 2) := by decide +kernel
theorem d_L_law_436 : decode b_L_law 436 = .ok (.if_icmp .eq 5, 3) := by decide +kernel
theorem d_L_law_439 : decode b_L_law 439 = .ok (.iconst 0, 1) := by decide +kernel
theorem d_L_law_440 : decode b_L_law 440 = .ok (.ireturn, 1) := by decide +kernel
theorem d_L_law_441 : decode b_L_law 441 = .ok (.goto 938, 3) := by decide +kernel
theorem d_L_law_444 : decode b_L_law 444 = .ok (.aload_n 1, 1) := by decide +kernel
theorem d_L_law_445 : decode b_L_law 445 = .ok (.aload_n 0, 1) := by decide +kernel
theorem d_L_law_446 : decode b_L_law 446 = .ok (.iload 4, 2) := by decide +kernel
theorem d_L_law_448 : decode b_L_law 448 = .ok (.iconst 1, 1) := by decide +kernel
theorem d_L_law_449 : decode b_L_law 449 = .ok (.iadd, 1) := by decide +kernel
theorem d_L_law_450 : decode b_L_law 450 = .ok (.iaload, 1) := by decide +kernel
theorem d_L_law_451 : decode b_L_law 451 = .ok (.aload_n 0, 1) := by decide +kernel
theorem d_L_law_452 : decode b_L_law 452 = .ok (.iload 4, 2) := by decide +kernel
theorem d_L_law_454 : decode b_L_law 454 = .ok (.iconst 2, 1) := by decide +kernel
theorem d_L_law_455 : decode b_L_law 455 = .ok (.iadd, 1) := by decide +kernel
theorem d_L_law_456 : decode b_L_law 456 = .ok (.iaload, 1) := by decide +kernel
theorem d_L_law_457 : decode b_L_law 457 = .ok (.aload_n 0, 1) := by decide +kernel
theorem d_L_law_458 : decode b_L_law 458 = .ok (.iload 4, 2) := by decide +kernel
theorem d_L_law_460 : decode b_L_law 460 = .ok (.iconst 3, 1) := by decide +kernel
theorem d_L_law_461 : decode b_L_law 461 = .ok (.iadd, 1) := by decide +kernel
theorem d_L_law_462 : decode b_L_law 462 = .ok (.iaload, 1) := by decide +kernel
theorem d_L_law_463 : decode b_L_law 463 = .ok (.aload_n 0, 1) := by decide +kernel
theorem d_L_law_464 : decode b_L_law 464 = .ok (.iload 4, 2) := by decide +kernel
theorem d_L_law_466 : decode b_L_law 466 = .ok (.iconst 4, 1) := by decide +kernel
theorem d_L_law_467 : decode b_L_law 467 = .ok (.iadd, 1) := by decide +kernel
theorem d_L_law_468 : decode b_L_law 468 = .ok (.iaload, 1) := by decide +kernel
theorem d_L_law_469 : decode b_L_law 469 = .ok (.invokestatic 104, 3) := by decide +kernel
theorem d_L_law_472 : decode b_L_law 472 = .ok (.istore 5, 2) := by decide +kernel
theorem d_L_law_474 : decode b_L_law 474 = .ok (.aload_n 2, 1) := by decide +kernel
theorem d_L_law_475 : decode b_L_law 475 = .ok (.aload_n 0, 1) := by decide +kernel
theorem d_L_law_476 : decode b_L_law 476 = .ok (.iload 4, 2) := by decide +kernel
theorem d_L_law_478 : decode b_L_law 478 = .ok (.iconst 1, 1) := by decide +kernel
theorem d_L_law_479 : decode b_L_law 479 = .ok (.iadd, 1) := by decide +kernel
theorem d_L_law_480 : decode b_L_law 480 = .ok (.iaload, 1) := by decide +kernel
theorem d_L_law_481 : decode b_L_law 481 = .ok (.aload_n 0, 1) := by decide +kernel
theorem d_L_law_482 : decode b_L_law 482 = .ok (.iload 4, 2) := by decide +kernel
theorem d_L_law_484 : decode b_L_law 484 = .ok (.iconst 2, 1) := by decide +kernel
theorem d_L_law_485 : decode b_L_law 485 = .ok (.iadd, 1) := by decide +kernel
theorem d_L_law_486 : decode b_L_law 486 = .ok (.iaload, 1) := by decide +kernel
theorem d_L_law_487 : decode b_L_law 487 = .ok (.aload_n 0, 1) := by decide +kernel
theorem d_L_law_488 : decode b_L_law 488 = .ok (.iload 4, 2) := by decide +kernel
theorem d_L_law_490 : decode b_L_law 490 = .ok (.iconst 3, 1) := by decide +kernel
theorem d_L_law_491 : decode b_L_law 491 = .ok (.iadd, 1) := by decide +kernel
theorem d_L_law_492 : decode b_L_law 492 = .ok (.iaload, 1) := by decide +kernel
theorem d_L_law_493 : decode b_L_law 493 = .ok (.aload_n 0, 1) := by decide +kernel
theorem d_L_law_494 : decode b_L_law 494 = .ok (.iload 4, 2) := by decide +kernel
theorem d_L_law_496 : decode b_L_law 496 = .ok (.iconst 4, 1) := by decide +kernel
theorem d_L_law_497 : decode b_L_law 497 = .ok (.iadd, 1) := by decide +kernel
theorem d_L_law_498 : decode b_L_law 498 = .ok (.iaload, 1) := by decide +kernel
theorem d_L_law_499 : decode b_L_law 499 = .ok (.invokevirtual 106, 3) := by decide +kernel
theorem d_L_law_502 : decode b_L_law 502 = .ok (.aload_n 2, 1) := by decide +kernel
theorem d_L_law_503 : decode b_L_law 503 = .ok (.invokevirtual 87, 3) := by decide +kernel
theorem d_L_law_506 : decode b_L_law 506 = .ok (.iload 5, 2) := by decide +kernel
theorem d_L_law_508 : decode b_L_law 508 = .ok (.if_icmp .eq 5, 3) := by decide +kernel
theorem d_L_law_511 : decode b_L_law 511 = .ok (.iconst 0, 1) := by decide +kernel
theorem d_L_law_512 : decode b_L_law 512 = .ok (.ireturn, 1) := by decide +kernel
theorem d_L_law_513 : decode b_L_law 513 = .ok (.goto 866, 3) := by decide +kernel
theorem d_L_law_516 : decode b_L_law 516 = .ok (.aload_n 1, 1) := by decide +kernel
theorem d_L_law_517 : decode b_L_law 517 = .ok (.aload_n 0, 1) := by decide +kernel
theorem d_L_law_518 : decode b_L_law 518 = .ok (.iload 4, 2) := by decide +kernel
theorem d_L_law_520 : decode b_L_law 520 = .ok (.iconst 1, 1) := by decide +kernel
theorem d_L_law_521 : decode b_L_law 521 = .ok (.iadd, 1) := by decide +kernel
theorem d_L_law_522 : decode b_L_law 522 = .ok (.iaload, 1) := by decide +kernel
theorem d_L_law_523 : decode b_L_law 523 = .ok (.aload_n 0, 1) := by decide +kernel
theorem d_L_law_524 : decode b_L_law 524 = .ok (.iload 4, 2) := by decide +kernel
theorem d_L_law_526 : decode b_L_law 526 = .ok (.iconst 2, 1) := by decide +kernel
theorem d_L_law_527 : decode b_L_law 527 = .ok (.iadd, 1) := by decide +kernel
theorem d_L_law_528 : decode b_L_law 528 = .ok (.iaload, 1) := by decide +kernel
theorem d_L_law_529 : decode b_L_law 529 = .ok (.aload_n 0, 1) := by decide +kernel
theorem d_L_law_530 : decode b_L_law 530 = .ok (.iload 4, 2) := by decide +kernel
theorem d_L_law_532 : decode b_L_law 532 = .ok (.iconst 3, 1) := by decide +kernel
theorem d_L_law_533 : decode b_L_law 533 = .ok (.iadd, 1) := by decide +kernel
theorem d_L_law_534 : decode b_L_law 534 = .ok (.iaload, 1) := by decide +kernel
theorem d_L_law_535 : decode b_L_law 535 = .ok (.aload_n 0, 1) := by decide +kernel
theorem d_L_law_536 : decode b_L_law 536 = .ok (.iload 4, 2) := by decide +kernel
theorem d_L_law_538 : decode b_L_law 538 = .ok (.iconst 4, 1) := by decide +kernel
theorem d_L_law_539 : decode b_L_law 539 = .ok (.iadd, 1) := by decide +kernel
theorem d_L_law_540 : decode b_L_law 540 = .ok (.iaload, 1) := by decide +kernel
theorem d_L_law_541 : decode b_L_law 541 = .ok (.ifCond .eq 7, 3) := by decide +kernel
theorem d_L_law_544 : decode b_L_law 544 = .ok (.iconst 1, 1) := by decide +kernel
theorem d_L_law_545 : decode b_L_law 545 = .ok (.goto 4, 3) := by decide +kernel
theorem d_L_law_548 : decode b_L_law 548 = .ok (.iconst 0, 1) := by decide +kernel
theorem d_L_law_549 : decode b_L_law 549 = .ok (.invokestatic 107, 3) := by decide +kernel
theorem d_L_law_552 : decode b_L_law 552 = .ok (.istore 5, 2) := by decide +kernel
theorem d_L_law_554 : decode b_L_law 554 = .ok (.aload_n 2, 1) := by decide +kernel
theorem d_L_law_555 : decode b_L_law 555 = .ok (.aload_n 0, 1) := by decide +kernel
theorem d_L_law_556 : decode b_L_law 556 = .ok (.iload 4, 2) := by decide +kernel
theorem d_L_law_558 : decode b_L_law 558 = .ok (.iconst 1, 1) := by decide +kernel
theorem d_L_law_559 : decode b_L_law 559 = .ok (.iadd, 1) := by decide +kernel
theorem d_L_law_560 : decode b_L_law 560 = .ok (.iaload, 1) := by decide +kernel
theorem d_L_law_561 : decode b_L_law 561 = .ok (.aload_n 0, 1) := by decide +kernel
theorem d_L_law_562 : decode b_L_law 562 = .ok (.iload 4, 2) := by decide +kernel
theorem d_L_law_564 : decode b_L_law 564 = .ok (.iconst 2, 1) := by decide +kernel
theorem d_L_law_565 : decode b_L_law 565 = .ok (.iadd, 1) := by decide +kernel
theorem d_L_law_566 : decode b_L_law 566 = .ok (.iaload, 1) := by decide +kernel
theorem d_L_law_567 : decode b_L_law 567 = .ok (.aload_n 0, 1) := by decide +kernel
theorem d_L_law_568 : decode b_L_law 568 = .ok (.iload 4, 2) := by decide +kernel
theorem d_L_law_570 : decode b_L_law 570 = .ok (.iconst 3, 1) := by decide +kernel
theorem d_L_law_571 : decode b_L_law 571 = .ok (.iadd, 1) := by decide +kernel
theorem d_L_law_572 : decode b_L_law 572 = .ok (.iaload, 1) := by decide +kernel
theorem d_L_law_573 : decode b_L_law 573 = .ok (.aload_n 0, 1) := by decide +kernel
theorem d_L_law_574 : decode b_L_law 574 = .ok (.iload 4, 2) := by decide +kernel
theorem d_L_law_576 : decode b_L_law 576 = .ok (.iconst 4, 1) := by decide +kernel
theorem d_L_law_577 : decode b_L_law 577 = .ok (.iadd, 1) := by decide +kernel
theorem d_L_law_578 : decode b_L_law 578 = .ok (.iaload, 1) := by decide +kernel
theorem d_L_law_579 : decode b_L_law 579 = .ok (.ifCond .eq 7, 3) := by decide +kernel
theorem d_L_law_582 : decode b_L_law 582 = .ok (.iconst 1, 1) := by decide +kernel
theorem d_L_law_583 : decode b_L_law 583 = .ok (.goto 4, 3) := by decide +kernel
theorem d_L_law_586 : decode b_L_law 586 = .ok (.iconst 0, 1) := by decide +kernel
theorem d_L_law_587 : decode b_L_law 587 = .ok (.invokevirtual 110, 3) := by decide +kernel
theorem d_L_law_590 : decode b_L_law 590 = .ok (.aload_n 2, 1) := by decide +kernel
theorem d_L_law_591 : decode b_L_law 591 = .ok (.invokevirtual 87, 3) := by decide +kernel
theorem d_L_law_594 : decode b_L_law 594 = .ok (.iload 5, 2) := by decide +kernel
theorem d_L_law_596 : decode b_L_law 596 = .ok (.if_icmp .eq 5, 3) := by decide +kernel
theorem d_L_law_599 : decode b_L_law 599 = .ok (.iconst 0, 1) := by decide +kernel
theorem d_L_law_600 : decode b_L_law 600 = .ok (.ireturn, 1) := by decide +kernel
theorem d_L_law_601 : decode b_L_law 601 = .ok (.goto 778, 3) := by decide +kernel
theorem d_L_law_604 : decode b_L_law 604 = .ok (.aload_n 1, 1) := by decide +kernel
theorem d_L_law_605 : decode b_L_law 605 = .ok (.aload_n 0, 1) := by decide +kernel
theorem d_L_law_606 : decode b_L_law 606 = .ok (.iload 4, 2) := by decide +kernel
theorem d_L_law_608 : decode b_L_law 608 = .ok (.iconst 1, 1) := by decide +kernel
theorem d_L_law_609 : decode b_L_law 609 = .ok (.iadd, 1) := by decide +kernel
theorem d_L_law_610 : decode b_L_law 610 = .ok (.iaload, 1) := by decide +kernel
theorem d_L_law_611 : decode b_L_law 611 = .ok (.aload_n 0, 1) := by decide +kernel
theorem d_L_law_612 : decode b_L_law 612 = .ok (.iload 4, 2) := by decide +kernel
theorem d_L_law_614 : decode b_L_law 614 = .ok (.iconst 2, 1) := by decide +kernel
theorem d_L_law_615 : decode b_L_law 615 = .ok (.iadd, 1) := by decide +kernel
theorem d_L_law_616 : decode b_L_law 616 = .ok (.iaload, 1) := by decide +kernel
theorem d_L_law_617 : decode b_L_law 617 = .ok (.aload_n 0, 1) := by decide +kernel
theorem d_L_law_618 : decode b_L_law 618 = .ok (.iload 4, 2) := by decide +kernel
theorem d_L_law_620 : decode b_L_law 620 = .ok (.iconst 3, 1) := by decide +kernel
theorem d_L_law_621 : decode b_L_law 621 = .ok (.iadd, 1) := by decide +kernel
theorem d_L_law_622 : decode b_L_law 622 = .ok (.iaload, 1) := by decide +kernel
theorem d_L_law_623 : decode b_L_law 623 = .ok (.aload_n 0, 1) := by decide +kernel
theorem d_L_law_624 : decode b_L_law 624 = .ok (.iload 4, 2) := by decide +kernel
theorem d_L_law_626 : decode b_L_law 626 = .ok (.iconst 4, 1) := by decide +kernel
theorem d_L_law_627 : decode b_L_law 627 = .ok (.iadd, 1) := by decide +kernel
theorem d_L_law_628 : decode b_L_law 628 = .ok (.iaload, 1) := by decide +kernel
theorem d_L_law_629 : decode b_L_law 629 = .ok (.invokestatic 111, 3) := by decide +kernel
theorem d_L_law_632 : decode b_L_law 632 = .ok (.istore 5, 2) := by decide +kernel
theorem d_L_law_634 : decode b_L_law 634 = .ok (.aload_n 2, 1) := by decide +kernel
theorem d_L_law_635 : decode b_L_law 635 = .ok (.aload_n 0, 1) := by decide +kernel
theorem d_L_law_636 : decode b_L_law 636 = .ok (.iload 4, 2) := by decide +kernel
theorem d_L_law_638 : decode b_L_law 638 = .ok (.iconst 1, 1) := by decide +kernel
theorem d_L_law_639 : decode b_L_law 639 = .ok (.iadd, 1) := by decide +kernel
theorem d_L_law_640 : decode b_L_law 640 = .ok (.iaload, 1) := by decide +kernel
theorem d_L_law_641 : decode b_L_law 641 = .ok (.aload_n 0, 1) := by decide +kernel
theorem d_L_law_642 : decode b_L_law 642 = .ok (.iload 4, 2) := by decide +kernel
theorem d_L_law_644 : decode b_L_law 644 = .ok (.iconst 2, 1) := by decide +kernel
theorem d_L_law_645 : decode b_L_law 645 = .ok (.iadd, 1) := by decide +kernel
theorem d_L_law_646 : decode b_L_law 646 = .ok (.iaload, 1) := by decide +kernel
theorem d_L_law_647 : decode b_L_law 647 = .ok (.aload_n 0, 1) := by decide +kernel
theorem d_L_law_648 : decode b_L_law 648 = .ok (.iload 4, 2) := by decide +kernel
theorem d_L_law_650 : decode b_L_law 650 = .ok (.iconst 3, 1) := by decide +kernel
theorem d_L_law_651 : decode b_L_law 651 = .ok (.iadd, 1) := by decide +kernel
theorem d_L_law_652 : decode b_L_law 652 = .ok (.iaload, 1) := by decide +kernel
theorem d_L_law_653 : decode b_L_law 653 = .ok (.aload_n 0, 1) := by decide +kernel
theorem d_L_law_654 : decode b_L_law 654 = .ok (.iload 4, 2) := by decide +kernel
theorem d_L_law_656 : decode b_L_law 656 = .ok (.iconst 4, 1) := by decide +kernel
theorem d_L_law_657 : decode b_L_law 657 = .ok (.iadd, 1) := by decide +kernel
theorem d_L_law_658 : decode b_L_law 658 = .ok (.iaload, 1) := by decide +kernel
theorem d_L_law_659 : decode b_L_law 659 = .ok (.invokevirtual 113, 3) := by decide +kernel
theorem d_L_law_662 : decode b_L_law 662 = .ok (.aload_n 2, 1) := by decide +kernel
theorem d_L_law_663 : decode b_L_law 663 = .ok (.invokevirtual 87, 3) := by decide +kernel
theorem d_L_law_666 : decode b_L_law 666 = .ok (.iload 5, 2) := by decide +kernel
theorem d_L_law_668 : decode b_L_law 668 = .ok (.if_icmp .eq 5, 3) := by decide +kernel
theorem d_L_law_671 : decode b_L_law 671 = .ok (.iconst 0, 1) := by decide +kernel
theorem d_L_law_672 : decode b_L_law 672 = .ok (.ireturn, 1) := by decide +kernel
theorem d_L_law_673 : decode b_L_law 673 = .ok (.goto 706, 3) := by decide +kernel
theorem d_L_law_676 : decode b_L_law 676 = .ok (.aload_n 1, 1) := by decide +kernel
theorem d_L_law_677 : decode b_L_law 677 = .ok (.aload_n 0, 1) := by decide +kernel
theorem d_L_law_678 : decode b_L_law 678 = .ok (.iload 4, 2) := by decide +kernel
theorem d_L_law_680 : decode b_L_law 680 = .ok (.iconst 1, 1) := by decide +kernel
theorem d_L_law_681 : decode b_L_law 681 = .ok (.iadd, 1) := by decide +kernel
theorem d_L_law_682 : decode b_L_law 682 = .ok (.iaload, 1) := by decide +kernel
theorem d_L_law_683 : decode b_L_law 683 = .ok (.aload_n 0, 1) := by decide +kernel
theorem d_L_law_684 : decode b_L_law 684 = .ok (.iload 4, 2) := by decide +kernel
theorem d_L_law_686 : decode b_L_law 686 = .ok (.iconst 2, 1) := by decide +kernel
theorem d_L_law_687 : decode b_L_law 687 = .ok (.iadd, 1) := by decide +kernel
theorem d_L_law_688 : decode b_L_law 688 = .ok (.iaload, 1) := by decide +kernel
theorem d_L_law_689 : decode b_L_law 689 = .ok (.aload_n 3, 1) := by decide +kernel
theorem d_L_law_690 : decode b_L_law 690 = .ok (.invokestatic 114, 3) := by decide +kernel
theorem d_L_law_693 : decode b_L_law 693 = .ok (.istore 5, 2) := by decide +kernel
theorem d_L_law_695 : decode b_L_law 695 = .ok (.aload_n 2, 1) := by decide +kernel
theorem d_L_law_696 : decode b_L_law 696 = .ok (.aload_n 0, 1) := by decide +kernel
theorem d_L_law_697 : decode b_L_law 697 = .ok (.iload 4, 2) := by decide +kernel
theorem d_L_law_699 : decode b_L_law 699 = .ok (.iconst 1, 1) := by decide +kernel
theorem d_L_law_700 : decode b_L_law 700 = .ok (.iadd, 1) := by decide +kernel
theorem d_L_law_701 : decode b_L_law 701 = .ok (.iaload, 1) := by decide +kernel
theorem d_L_law_702 : decode b_L_law 702 = .ok (.aload_n 0, 1) := by decide +kernel
theorem d_L_law_703 : decode b_L_law 703 = .ok (.iload 4, 2) := by decide +kernel
theorem d_L_law_705 : decode b_L_law 705 = .ok (.iconst 2, 1) := by decide +kernel
theorem d_L_law_706 : decode b_L_law 706 = .ok (.iadd, 1) := by decide +kernel
theorem d_L_law_707 : decode b_L_law 707 = .ok (.iaload, 1) := by decide +kernel
theorem d_L_law_708 : decode b_L_law 708 = .ok (.invokevirtual 117, 3) := by decide +kernel
theorem d_L_law_711 : decode b_L_law 711 = .ok (.istore 6, 2) := by decide +kernel
theorem d_L_law_713 : decode b_L_law 713 = .ok (.aload_n 2, 1) := by decide +kernel
theorem d_L_law_714 : decode b_L_law 714 = .ok (.invokevirtual 87, 3) := by decide +kernel
theorem d_L_law_717 : decode b_L_law 717 = .ok (.iload 5, 2) := by decide +kernel
theorem d_L_law_719 : decode b_L_law 719 = .ok (.if_icmp .eq 5, 3) := by decide +kernel
theorem d_L_law_722 : decode b_L_law 722 = .ok (.iconst 0, 1) := by decide +kernel
theorem d_L_law_723 : decode b_L_law 723 = .ok (.ireturn, 1) := by decide +kernel
theorem d_L_law_724 : decode b_L_law 724 = .ok (.iload 5, 2) := by decide +kernel
theorem d_L_law_726 : decode b_L_law 726 = .ok (.ifCond .ne 15, 3) := by decide +kernel
theorem d_L_law_729 : decode b_L_law 729 = .ok (.aload_n 3, 1) := by decide +kernel
theorem d_L_law_730 : decode b_L_law 730 = .ok (.iconst 0, 1) := by decide +kernel
theorem d_L_law_731 : decode b_L_law 731 = .ok (.laload, 1) := by decide +kernel
theorem d_L_law_732 : decode b_L_law 732 = .ok (.iload 6, 2) := by decide +kernel
theorem d_L_law_734 : decode b_L_law 734 = .ok (.i2l, 1) := by decide +kernel
theorem d_L_law_735 : decode b_L_law 735 = .ok (.lcmp, 1) := by decide +kernel
theorem d_L_law_736 : decode b_L_law 736 = .ok (.ifCond .eq 5, 3) := by decide +kernel
theorem d_L_law_739 : decode b_L_law 739 = .ok (.iconst 0, 1) := by decide +kernel
theorem d_L_law_740 : decode b_L_law 740 = .ok (.ireturn, 1) := by decide +kernel
theorem d_L_law_741 : decode b_L_law 741 = .ok (.goto 638, 3) := by decide +kernel
theorem d_L_law_744 : decode b_L_law 744 = .ok (.aload_n 1, 1) := by decide +kernel
theorem d_L_law_745 : decode b_L_law 745 = .ok (.aload_n 0, 1) := by decide +kernel
theorem d_L_law_746 : decode b_L_law 746 = .ok (.iload 4, 2) := by decide +kernel
theorem d_L_law_748 : decode b_L_law 748 = .ok (.iconst 1, 1) := by decide +kernel
theorem d_L_law_749 : decode b_L_law 749 = .ok (.iadd, 1) := by decide +kernel
theorem d_L_law_750 : decode b_L_law 750 = .ok (.iaload, 1) := by decide +kernel
theorem d_L_law_751 : decode b_L_law 751 = .ok (.aload_n 3, 1) := by decide +kernel
theorem d_L_law_752 : decode b_L_law 752 = .ok (.invokestatic 118, 3) := by decide +kernel
theorem d_L_law_755 : decode b_L_law 755 = .ok (.istore 5, 2) := by decide +kernel
theorem d_L_law_757 : decode b_L_law 757 = .ok (.aload_n 2, 1) := by decide +kernel
theorem d_L_law_758 : decode b_L_law 758 = .ok (.aload_n 0, 1) := by decide +kernel
theorem d_L_law_759 : decode b_L_law 759 = .ok (.iload 4, 2) := by decide +kernel
theorem d_L_law_761 : decode b_L_law 761 = .ok (.iconst 1, 1) := by decide +kernel
theorem d_L_law_762 : decode b_L_law 762 = .ok (.iadd, 1) := by decide +kernel
theorem d_L_law_763 : decode b_L_law 763 = .ok (.iaload, 1) := by decide +kernel
theorem d_L_law_764 : decode b_L_law 764 = .ok (.invokevirtual 121, 3) := by decide +kernel
theorem d_L_law_767 : decode b_L_law 767 = .ok (.istore 6, 2) := by decide +kernel
theorem d_L_law_769 : decode b_L_law 769 = .ok (.aload_n 2, 1) := by decide +kernel
theorem d_L_law_770 : decode b_L_law 770 = .ok (.invokevirtual 87, 3) := by decide +kernel
theorem d_L_law_773 : decode b_L_law 773 = .ok (.iload 5, 2) := by decide +kernel
theorem d_L_law_775 : decode b_L_law 775 = .ok (.if_icmp .eq 5, 3) := by decide +kernel
theorem d_L_law_778 : decode b_L_law 778 = .ok (.iconst 0, 1) := by decide +kernel
theorem d_L_law_779 : decode b_L_law 779 = .ok (.ireturn, 1) := by decide +kernel
theorem d_L_law_780 : decode b_L_law 780 = .ok (.iload 5, 2) := by decide +kernel
theorem d_L_law_782 : decode b_L_law 782 = .ok (.ifCond .ne 15, 3) := by decide +kernel
theorem d_L_law_785 : decode b_L_law 785 = .ok (.aload_n 3, 1) := by decide +kernel
theorem d_L_law_786 : decode b_L_law 786 = .ok (.iconst 0, 1) := by decide +kernel
theorem d_L_law_787 : decode b_L_law 787 = .ok (.laload, 1) := by decide +kernel
theorem d_L_law_788 : decode b_L_law 788 = .ok (.iload 6, 2) := by decide +kernel
theorem d_L_law_790 : decode b_L_law 790 = .ok (.i2l, 1) := by decide +kernel
theorem d_L_law_791 : decode b_L_law 791 = .ok (.lcmp, 1) := by decide +kernel
theorem d_L_law_792 : decode b_L_law 792 = .ok (.ifCond .eq 5, 3) := by decide +kernel
theorem d_L_law_795 : decode b_L_law 795 = .ok (.iconst 0, 1) := by decide +kernel
theorem d_L_law_796 : decode b_L_law 796 = .ok (.ireturn, 1) := by decide +kernel
theorem d_L_law_797 : decode b_L_law 797 = .ok (.goto 582, 3) := by decide +kernel
theorem d_L_law_800 : decode b_L_law 800 = .ok (.aload_n 1, 1) := by decide +kernel
theorem d_L_law_801 : decode b_L_law 801 = .ok (.invokevirtual 122, 3) := by decide +kernel
theorem d_L_law_804 : decode b_L_law 804 = .ok (.aload_n 2, 1) := by decide +kernel
theorem d_L_law_805 : decode b_L_law 805 = .ok (.invokevirtual 125, 3) := by decide +kernel
theorem d_L_law_808 : decode b_L_law 808 = .ok (.if_icmp .eq 571, 3) := by decide +kernel
theorem d_L_law_811 : decode b_L_law 811 = .ok (.iconst 0, 1) := by decide +kernel
theorem d_L_law_812 : decode b_L_law 812 = .ok (.ireturn, 1) := by decide +kernel
theorem d_L_law_813 : decode b_L_law 813 = .ok (.aload_n 1, 1) := by decide +kernel
theorem d_L_law_814 : decode b_L_law 814 = .ok (.aload_n 0, 1) := by decide +kernel
theorem d_L_law_815 : decode b_L_law 815 = .ok (.iload 4, 2) := by decide +kernel
theorem d_L_law_817 : decode b_L_law 817 = .ok (.iconst 1, 1) := by decide +kernel
theorem d_L_law_818 : decode b_L_law 818 = .ok (.iadd, 1) := by decide +kernel
theorem d_L_law_819 : decode b_L_law 819 = .ok (.iaload, 1) := by decide +kernel
theorem d_L_law_820 : decode b_L_law 820 = .ok (.aload_n 3, 1) := by decide +kernel
theorem d_L_law_821 : decode b_L_law 821 = .ok (.invokestatic 126, 3) := by decide +kernel
theorem d_L_law_824 : decode b_L_law 824 = .ok (.istore 5, 2) := by decide +kernel
theorem d_L_law_826 : decode b_L_law 826 = .ok (.aload_n 2, 1) := by decide +kernel
theorem d_L_law_827 : decode b_L_law 827 = .ok (.aload_n 0, 1) := by decide +kernel
theorem d_L_law_828 : decode b_L_law 828 = .ok (.iload 4, 2) := by decide +kernel
theorem d_L_law_830 : decode b_L_law 830 = .ok (.iconst 1, 1) := by decide +kernel
theorem d_L_law_831 : decode b_L_law 831 = .ok (.iadd, 1) := by decide +kernel
theorem d_L_law_832 : decode b_L_law 832 = .ok (.iaload, 1) := by decide +kernel
theorem d_L_law_833 : decode b_L_law 833 = .ok (.invokevirtual 128, 3) := by decide +kernel
theorem d_L_law_836 : decode b_L_law 836 = .ok (.istore 6, 2) := by decide +kernel
theorem d_L_law_838 : decode b_L_law 838 = .ok (.aload_n 2, 1) := by decide +kernel
theorem d_L_law_839 : decode b_L_law 839 = .ok (.invokevirtual 87, 3) := by decide +kernel
theorem d_L_law_842 : decode b_L_law 842 = .ok (.iload 5, 2) := by decide +kernel
theorem d_L_law_844 : decode b_L_law 844 = .ok (.if_icmp .eq 5, 3) := by decide +kernel
theorem d_L_law_847 : decode b_L_law 847 = .ok (.iconst 0, 1) := by decide +kernel
theorem d_L_law_848 : decode b_L_law 848 = .ok (.ireturn, 1) := by decide +kernel
theorem d_L_law_849 : decode b_L_law 849 = .ok (.iload 5, 2) := by decide +kernel
theorem d_L_law_851 : decode b_L_law 851 = .ok (.ifCond .ne 15, 3) := by decide +kernel
theorem d_L_law_854 : decode b_L_law 854 = .ok (.aload_n 3, 1) := by decide +kernel
theorem d_L_law_855 : decode b_L_law 855 = .ok (.iconst 0, 1) := by decide +kernel
theorem d_L_law_856 : decode b_L_law 856 = .ok (.laload, 1) := by decide +kernel
theorem d_L_law_857 : decode b_L_law 857 = .ok (.iload 6, 2) := by decide +kernel
theorem d_L_law_859 : decode b_L_law 859 = .ok (.i2l, 1) := by decide +kernel
theorem d_L_law_860 : decode b_L_law 860 = .ok (.lcmp, 1) := by decide +kernel
theorem d_L_law_861 : decode b_L_law 861 = .ok (.ifCond .eq 5, 3) := by decide +kernel
theorem d_L_law_864 : decode b_L_law 864 = .ok (.iconst 0, 1) := by decide +kernel
theorem d_L_law_865 : decode b_L_law 865 = .ok (.ireturn, 1) := by decide +kernel
theorem d_L_law_866 : decode b_L_law 866 = .ok (.goto 513, 3) := by decide +kernel
theorem d_L_law_869 : decode b_L_law 869 = .ok (.aload_n 1, 1) := by decide +kernel
theorem d_L_law_870 : decode b_L_law 870 = .ok (.aload_n 0, 1) := by decide +kernel
theorem d_L_law_871 : decode b_L_law 871 = .ok (.iload 4, 2) := by decide +kernel
theorem d_L_law_873 : decode b_L_law 873 = .ok (.iconst 1, 1) := by decide +kernel
theorem d_L_law_874 : decode b_L_law 874 = .ok (.iadd, 1) := by decide +kernel
theorem d_L_law_875 : decode b_L_law 875 = .ok (.iaload, 1) := by decide +kernel
theorem d_L_law_876 : decode b_L_law 876 = .ok (.aload_n 3, 1) := by decide +kernel
theorem d_L_law_877 : decode b_L_law 877 = .ok (.invokestatic 129, 3) := by decide +kernel
theorem d_L_law_880 : decode b_L_law 880 = .ok (.istore 5, 2) := by decide +kernel
theorem d_L_law_882 : decode b_L_law 882 = .ok (.aload_n 2, 1) := by decide +kernel
theorem d_L_law_883 : decode b_L_law 883 = .ok (.aload_n 0, 1) := by decide +kernel
theorem d_L_law_884 : decode b_L_law 884 = .ok (.iload 4, 2) := by decide +kernel
theorem d_L_law_886 : decode b_L_law 886 = .ok (.iconst 1, 1) := by decide +kernel
theorem d_L_law_887 : decode b_L_law 887 = .ok (.iadd, 1) := by decide +kernel
theorem d_L_law_888 : decode b_L_law 888 = .ok (.iaload, 1) := by decide +kernel
theorem d_L_law_889 : decode b_L_law 889 = .ok (.invokevirtual 131, 3) := by decide +kernel
theorem d_L_law_892 : decode b_L_law 892 = .ok (.istore 6, 2) := by decide +kernel
theorem d_L_law_894 : decode b_L_law 894 = .ok (.aload_n 2, 1) := by decide +kernel
theorem d_L_law_895 : decode b_L_law 895 = .ok (.invokevirtual 87, 3) := by decide +kernel
theorem d_L_law_898 : decode b_L_law 898 = .ok (.iload 5, 2) := by decide +kernel
theorem d_L_law_900 : decode b_L_law 900 = .ok (.if_icmp .eq 5, 3) := by decide +kernel
theorem d_L_law_903 : decode b_L_law 903 = .ok (.iconst 0, 1) := by decide +kernel
theorem d_L_law_904 : decode b_L_law 904 = .ok (.ireturn, 1) := by decide +kernel
theorem d_L_law_905 : decode b_L_law 905 = .ok (.iload 5, 2) := by decide +kernel
theorem d_L_law_907 : decode b_L_law 907 = .ok (.ifCond .ne 15, 3) := by decide +kernel
theorem d_L_law_910 : decode b_L_law 910 = .ok (.aload_n 3, 1) := by decide +kernel
theorem d_L_law_911 : decode b_L_law 911 = .ok (.iconst 0, 1) := by decide +kernel
theorem d_L_law_912 : decode b_L_law 912 = .ok (.laload, 1) := by decide +kernel
theorem d_L_law_913 : decode b_L_law 913 = .ok (.iload 6, 2) := by decide +kernel
theorem d_L_law_915 : decode b_L_law 915 = .ok (.i2l, 1) := by decide +kernel
theorem d_L_law_916 : decode b_L_law 916 = .ok (.lcmp, 1) := by decide +kernel
theorem d_L_law_917 : decode b_L_law 917 = .ok (.ifCond .eq 5, 3) := by decide +kernel
theorem d_L_law_920 : decode b_L_law 920 = .ok (.iconst 0, 1) := by decide +kernel
theorem d_L_law_921 : decode b_L_law 921 = .ok (.ireturn, 1) := by decide +kernel
theorem d_L_law_922 : decode b_L_law 922 = .ok (.goto 457, 3) := by decide +kernel
theorem d_L_law_925 : decode b_L_law 925 = .ok (.aload_n 1, 1) := by decide +kernel
theorem d_L_law_926 : decode b_L_law 926 = .ok (.aload_n 0, 1) := by decide +kernel
theorem d_L_law_927 : decode b_L_law 927 = .ok (.iload 4, 2) := by decide +kernel
theorem d_L_law_929 : decode b_L_law 929 = .ok (.iconst 1, 1) := by decide +kernel
theorem d_L_law_930 : decode b_L_law 930 = .ok (.iadd, 1) := by decide +kernel
theorem d_L_law_931 : decode b_L_law 931 = .ok (.iaload, 1) := by decide +kernel
theorem d_L_law_932 : decode b_L_law 932 = .ok (.aload_n 3, 1) := by decide +kernel
theorem d_L_law_933 : decode b_L_law 933 = .ok (.invokestatic 132, 3) := by decide +kernel
theorem d_L_law_936 : decode b_L_law 936 = .ok (.istore 5, 2) := by decide +kernel
theorem d_L_law_938 : decode b_L_law 938 = .ok (.aload_n 2, 1) := by decide +kernel
theorem d_L_law_939 : decode b_L_law 939 = .ok (.aload_n 0, 1) := by decide +kernel
theorem d_L_law_940 : decode b_L_law 940 = .ok (.iload 4, 2) := by decide +kernel
theorem d_L_law_942 : decode b_L_law 942 = .ok (.iconst 1, 1) := by decide +kernel
theorem d_L_law_943 : decode b_L_law 943 = .ok (.iadd, 1) := by decide +kernel
theorem d_L_law_944 : decode b_L_law 944 = .ok (.iaload, 1) := by decide +kernel
theorem d_L_law_945 : decode b_L_law 945 = .ok (.invokevirtual 134, 3) := by decide +kernel
theorem d_L_law_948 : decode b_L_law 948 = .ok (.istore 6, 2) := by decide +kernel
theorem d_L_law_950 : decode b_L_law 950 = .ok (.aload_n 2, 1) := by decide +kernel
theorem d_L_law_951 : decode b_L_law 951 = .ok (.invokevirtual 87, 3) := by decide +kernel
theorem d_L_law_954 : decode b_L_law 954 = .ok (.iload 5, 2) := by decide +kernel
theorem d_L_law_956 : decode b_L_law 956 = .ok (.if_icmp .eq 5, 3) := by decide +kernel
theorem d_L_law_959 : decode b_L_law 959 = .ok (.iconst 0, 1) := by decide +kernel
theorem d_L_law_960 : decode b_L_law 960 = .ok (.ireturn, 1) := by decide +kernel
theorem d_L_law_961 : decode b_L_law 961 = .ok (.iload 5, 2) := by decide +kernel
theorem d_L_law_963 : decode b_L_law 963 = .ok (.ifCond .ne 15, 3) := by decide +kernel
theorem d_L_law_966 : decode b_L_law 966 = .ok (.aload_n 3, 1) := by decide +kernel
theorem d_L_law_967 : decode b_L_law 967 = .ok (.iconst 0, 1) := by decide +kernel
theorem d_L_law_968 : decode b_L_law 968 = .ok (.laload, 1) := by decide +kernel
theorem d_L_law_969 : decode b_L_law 969 = .ok (.iload 6, 2) := by decide +kernel
theorem d_L_law_971 : decode b_L_law 971 = .ok (.i2l, 1) := by decide +kernel
theorem d_L_law_972 : decode b_L_law 972 = .ok (.lcmp, 1) := by decide +kernel
theorem d_L_law_973 : decode b_L_law 973 = .ok (.ifCond .eq 5, 3) := by decide +kernel
theorem d_L_law_976 : decode b_L_law 976 = .ok (.iconst 0, 1) := by decide +kernel
theorem d_L_law_977 : decode b_L_law 977 = .ok (.ireturn, 1) := by decide +kernel
theorem d_L_law_978 : decode b_L_law 978 = .ok (.goto 401, 3) := by decide +kernel
theorem d_L_law_981 : decode b_L_law 981 = .ok (.aload_n 1, 1) := by decide +kernel
theorem d_L_law_982 : decode b_L_law 982 = .ok (.aload_n 0, 1) := by decide +kernel
theorem d_L_law_983 : decode b_L_law 983 = .ok (.iload 4, 2) := by decide +kernel
theorem d_L_law_985 : decode b_L_law 985 = .ok (.iconst 1, 1) := by decide +kernel
theorem d_L_law_986 : decode b_L_law 986 = .ok (.iadd, 1) := by decide +kernel
theorem d_L_law_987 : decode b_L_law 987 = .ok (.iaload, 1) := by decide +kernel
theorem d_L_law_988 : decode b_L_law 988 = .ok (.aload_n 0, 1) := by decide +kernel
theorem d_L_law_989 : decode b_L_law 989 = .ok (.iload 4, 2) := by decide +kernel
theorem d_L_law_991 : decode b_L_law 991 = .ok (.iconst 2, 1) := by decide +kernel
theorem d_L_law_992 : decode b_L_law 992 = .ok (.iadd, 1) := by decide +kernel
theorem d_L_law_993 : decode b_L_law 993 = .ok (.iaload, 1) := by decide +kernel
theorem d_L_law_994 : decode b_L_law 994 = .ok (.aload_n 3, 1) := by decide +kernel
theorem d_L_law_995 : decode b_L_law 995 = .ok (.invokestatic 135, 3) := by decide +kernel
theorem d_L_law_998 : decode b_L_law 998 = .ok (.istore 5, 2) := by decide +kernel
theorem d_L_law_1000 : decode b_L_law 1000 = .ok (.aload_n 2, 1) := by decide +kernel
theorem d_L_law_1001 : decode b_L_law 1001 = .ok (.aload_n 0, 1) := by decide +kernel
theorem d_L_law_1002 : decode b_L_law 1002 = .ok (.iload 4, 2) := by decide +kernel
theorem d_L_law_1004 : decode b_L_law 1004 = .ok (.iconst 1, 1) := by decide +kernel
theorem d_L_law_1005 : decode b_L_law 1005 = .ok (.iadd, 1) := by decide +kernel
theorem d_L_law_1006 : decode b_L_law 1006 = .ok (.iaload, 1) := by decide +kernel
theorem d_L_law_1007 : decode b_L_law 1007 = .ok (.aload_n 0, 1) := by decide +kernel
theorem d_L_law_1008 : decode b_L_law 1008 = .ok (.iload 4, 2) := by decide +kernel
theorem d_L_law_1010 : decode b_L_law 1010 = .ok (.iconst 2, 1) := by decide +kernel
theorem d_L_law_1011 : decode b_L_law 1011 = .ok (.iadd, 1) := by decide +kernel
theorem d_L_law_1012 : decode b_L_law 1012 = .ok (.iaload, 1) := by decide +kernel
theorem d_L_law_1013 : decode b_L_law 1013 = .ok (.invokevirtual 137, 3) := by decide +kernel
theorem d_L_law_1016 : decode b_L_law 1016 = .ok (.istore 6, 2) := by decide +kernel
theorem d_L_law_1018 : decode b_L_law 1018 = .ok (.aload_n 2, 1) := by decide +kernel
theorem d_L_law_1019 : decode b_L_law 1019 = .ok (.invokevirtual 87, 3) := by decide +kernel
theorem d_L_law_1022 : decode b_L_law 1022 = .ok (.iload 5, 2) := by decide +kernel
theorem d_L_law_1024 : decode b_L_law 1024 = .ok (.if_icmp .eq 5, 3) := by decide +kernel
theorem d_L_law_1027 : decode b_L_law 1027 = .ok (.iconst 0, 1) := by decide +kernel
theorem d_L_law_1028 : decode b_L_law 1028 = .ok (.ireturn, 1) := by decide +kernel
theorem d_L_law_1029 : decode b_L_law 1029 = .ok (.iload 5, 2) := by decide +kernel
theorem d_L_law_1031 : decode b_L_law 1031 = .ok (.ifCond .ne 22, 3) := by decide +kernel
theorem d_L_law_1034 : decode b_L_law 1034 = .ok (.aload_n 3, 1) := by decide +kernel
theorem d_L_law_1035 : decode b_L_law 1035 = .ok (.iconst 0, 1) := by decide +kernel
theorem d_L_law_1036 : decode b_L_law 1036 = .ok (.laload, 1) := by decide +kernel
theorem d_L_law_1037 : decode b_L_law 1037 = .ok (.iload 6, 2) := by decide +kernel
theorem d_L_law_1039 : decode b_L_law 1039 = .ok (.ifCond .eq 7, 3) := by decide +kernel
theorem d_L_law_1042 : decode b_L_law 1042 = .ok (.lconst 1, 1) := by decide +kernel
theorem d_L_law_1043 : decode b_L_law 1043 = .ok (.goto 4, 3) := by decide +kernel
theorem d_L_law_1046 : decode b_L_law 1046 = .ok (.lconst 0, 1) := by decide +kernel
theorem d_L_law_1047 : decode b_L_law 1047 = .ok (.lcmp, 1) := by decide +kernel
theorem d_L_law_1048 : decode b_L_law 1048 = .ok (.ifCond .eq 5, 3) := by decide +kernel
theorem d_L_law_1051 : decode b_L_law 1051 = .ok (.iconst 0, 1) := by decide +kernel
theorem d_L_law_1052 : decode b_L_law 1052 = .ok (.ireturn, 1) := by decide +kernel
theorem d_L_law_1053 : decode b_L_law 1053 = .ok (.goto 326, 3) := by decide +kernel
theorem d_L_law_1056 : decode b_L_law 1056 = .ok (.aload_n 1, 1) := by decide +kernel
theorem d_L_law_1057 : decode b_L_law 1057 = .ok (.aload_n 0, 1) := by decide +kernel
theorem d_L_law_1058 : decode b_L_law 1058 = .ok (.iload 4, 2) := by decide +kernel
theorem d_L_law_1060 : decode b_L_law 1060 = .ok (.iconst 1, 1) := by decide +kernel
theorem d_L_law_1061 : decode b_L_law 1061 = .ok (.iadd, 1) := by decide +kernel
theorem d_L_law_1062 : decode b_L_law 1062 = .ok (.iaload, 1) := by decide +kernel
theorem d_L_law_1063 : decode b_L_law 1063 = .ok (.aload_n 3, 1) := by decide +kernel
theorem d_L_law_1064 : decode b_L_law 1064 = .ok (.invokestatic 138, 3) := by decide +kernel
theorem d_L_law_1067 : decode b_L_law 1067 = .ok (.istore 5, 2) := by decide +kernel
theorem d_L_law_1069 : decode b_L_law 1069 = .ok (.aload_n 2, 1) := by decide +kernel
theorem d_L_law_1070 : decode b_L_law 1070 = .ok (.aload_n 0, 1) := by decide +kernel
theorem d_L_law_1071 : decode b_L_law 1071 = .ok (.iload 4, 2) := by decide +kernel
theorem d_L_law_1073 : decode b_L_law 1073 = .ok (.iconst 1, 1) := by decide +kernel
theorem d_L_law_1074 : decode b_L_law 1074 = .ok (.iadd, 1) := by decide +kernel
theorem d_L_law_1075 : decode b_L_law 1075 = .ok (.iaload, 1) := by decide +kernel
theorem d_L_law_1076 : decode b_L_law 1076 = .ok (.invokevirtual 140, 3) := by decide +kernel
theorem d_L_law_1079 : decode b_L_law 1079 = .ok (.istore 6, 2) := by decide +kernel
theorem d_L_law_1081 : decode b_L_law 1081 = .ok (.aload_n 2, 1) := by decide +kernel
theorem d_L_law_1082 : decode b_L_law 1082 = .ok (.invokevirtual 87, 3) := by decide +kernel
theorem d_L_law_1085 : decode b_L_law 1085 = .ok (.iload 5, 2) := by decide +kernel
theorem d_L_law_1087 : decode b_L_law 1087 = .ok (.if_icmp .eq 5, 3) := by decide +kernel
theorem d_L_law_1090 : decode b_L_law 1090 = .ok (.iconst 0, 1) := by decide +kernel
theorem d_L_law_1091 : decode b_L_law 1091 = .ok (.ireturn, 1) := by decide +kernel
theorem d_L_law_1092 : decode b_L_law 1092 = .ok (.iload 5, 2) := by decide +kernel
theorem d_L_law_1094 : decode b_L_law 1094 = .ok (.ifCond .ne 15, 3) := by decide +kernel
theorem d_L_law_1097 : decode b_L_law 1097 = .ok (.aload_n 3, 1) := by decide +kernel
theorem d_L_law_1098 : decode b_L_law 1098 = .ok (.iconst 0, 1) := by decide +kernel
theorem d_L_law_1099 : decode b_L_law 1099 = .ok (.laload, 1) := by decide +kernel
theorem d_L_law_1100 : decode b_L_law 1100 = .ok (.iload 6, 2) := by decide +kernel
theorem d_L_law_1102 : decode b_L_law 1102 = .ok (.i2l, 1) := by decide +kernel
theorem d_L_law_1103 : decode b_L_law 1103 = .ok (.lcmp, 1) := by decide +kernel
theorem d_L_law_1104 : decode b_L_law 1104 = .ok (.ifCond .eq 5, 3) := by decide +kernel
theorem d_L_law_1107 : decode b_L_law 1107 = .ok (.iconst 0, 1) := by decide +kernel
theorem d_L_law_1108 : decode b_L_law 1108 = .ok (.ireturn, 1) := by decide +kernel
theorem d_L_law_1109 : decode b_L_law 1109 = .ok (.goto 270, 3) := by decide +kernel
theorem d_L_law_1112 : decode b_L_law 1112 = .ok (.aload_n 1, 1) := by decide +kernel
theorem d_L_law_1113 : decode b_L_law 1113 = .ok (.aload_n 0, 1) := by decide +kernel
theorem d_L_law_1114 : decode b_L_law 1114 = .ok (.iload 4, 2) := by decide +kernel
theorem d_L_law_1116 : decode b_L_law 1116 = .ok (.iconst 1, 1) := by decide +kernel
theorem d_L_law_1117 : decode b_L_law 1117 = .ok (.iadd, 1) := by decide +kernel
theorem d_L_law_1118 : decode b_L_law 1118 = .ok (.iaload, 1) := by decide +kernel
theorem d_L_law_1119 : decode b_L_law 1119 = .ok (.aload_n 3, 1) := by decide +kernel
theorem d_L_law_1120 : decode b_L_law 1120 = .ok (.invokestatic 141, 3) := by decide +kernel
theorem d_L_law_1123 : decode b_L_law 1123 = .ok (.istore 5, 2) := by decide +kernel
theorem d_L_law_1125 : decode b_L_law 1125 = .ok (.aload_n 2, 1) := by decide +kernel
theorem d_L_law_1126 : decode b_L_law 1126 = .ok (.aload_n 0, 1) := by decide +kernel
theorem d_L_law_1127 : decode b_L_law 1127 = .ok (.iload 4, 2) := by decide +kernel
theorem d_L_law_1129 : decode b_L_law 1129 = .ok (.iconst 1, 1) := by decide +kernel
theorem d_L_law_1130 : decode b_L_law 1130 = .ok (.iadd, 1) := by decide +kernel
theorem d_L_law_1131 : decode b_L_law 1131 = .ok (.iaload, 1) := by decide +kernel
theorem d_L_law_1132 : decode b_L_law 1132 = .ok (.invokevirtual 143, 3) := by decide +kernel
theorem d_L_law_1135 : decode b_L_law 1135 = .ok (.istore 6, 2) := by decide +kernel
theorem d_L_law_1137 : decode b_L_law 1137 = .ok (.aload_n 2, 1) := by decide +kernel
theorem d_L_law_1138 : decode b_L_law 1138 = .ok (.invokevirtual 87, 3) := by decide +kernel
theorem d_L_law_1141 : decode b_L_law 1141 = .ok (.iload 5, 2) := by decide +kernel
theorem d_L_law_1143 : decode b_L_law 1143 = .ok (.if_icmp .eq 5, 3) := by decide +kernel
theorem d_L_law_1146 : decode b_L_law 1146 = .ok (.iconst 0, 1) := by decide +kernel
theorem d_L_law_1147 : decode b_L_law 1147 = .ok (.ireturn, 1) := by decide +kernel
theorem d_L_law_1148 : decode b_L_law 1148 = .ok (.iload 5, 2) := by decide +kernel
theorem d_L_law_1150 : decode b_L_law 1150 = .ok (.ifCond .ne 15, 3) := by decide +kernel
theorem d_L_law_1153 : decode b_L_law 1153 = .ok (.aload_n 3, 1) := by decide +kernel
theorem d_L_law_1154 : decode b_L_law 1154 = .ok (.iconst 0, 1) := by decide +kernel
theorem d_L_law_1155 : decode b_L_law 1155 = .ok (.laload, 1) := by decide +kernel
theorem d_L_law_1156 : decode b_L_law 1156 = .ok (.iload 6, 2) := by decide +kernel
theorem d_L_law_1158 : decode b_L_law 1158 = .ok (.i2l, 1) := by decide +kernel
theorem d_L_law_1159 : decode b_L_law 1159 = .ok (.lcmp, 1) := by decide +kernel
theorem d_L_law_1160 : decode b_L_law 1160 = .ok (.ifCond .eq 5, 3) := by decide +kernel
theorem d_L_law_1163 : decode b_L_law 1163 = .ok (.iconst 0, 1) := by decide +kernel
theorem d_L_law_1164 : decode b_L_law 1164 = .ok (.ireturn, 1) := by decide +kernel
theorem d_L_law_1165 : decode b_L_law 1165 = .ok (.goto 214, 3) := by decide +kernel
theorem d_L_law_1168 : decode b_L_law 1168 = .ok (.aload_n 1, 1) := by decide +kernel
theorem d_L_law_1169 : decode b_L_law 1169 = .ok (.aload_n 0, 1) := by decide +kernel
theorem d_L_law_1170 : decode b_L_law 1170 = .ok (.iload 4, 2) := by decide +kernel
theorem d_L_law_1172 : decode b_L_law 1172 = .ok (.iconst 1, 1) := by decide +kernel
theorem d_L_law_1173 : decode b_L_law 1173 = .ok (.iadd, 1) := by decide +kernel
theorem d_L_law_1174 : decode b_L_law 1174 = .ok (.iaload, 1) := by decide +kernel
theorem d_L_law_1175 : decode b_L_law 1175 = .ok (.aload_n 0, 1) := by decide +kernel
theorem d_L_law_1176 : decode b_L_law 1176 = .ok (.iload 4, 2) := by decide +kernel
theorem d_L_law_1178 : decode b_L_law 1178 = .ok (.iconst 2, 1) := by decide +kernel
theorem d_L_law_1179 : decode b_L_law 1179 = .ok (.iadd, 1) := by decide +kernel
theorem d_L_law_1180 : decode b_L_law 1180 = .ok (.iaload, 1) := by decide +kernel
theorem d_L_law_1181 : decode b_L_law 1181 = .ok (.aload_n 3, 1) := by decide +kernel
theorem d_L_law_1182 : decode b_L_law 1182 = .ok (.invokestatic 144, 3) := by decide +kernel
theorem d_L_law_1185 : decode b_L_law 1185 = .ok (.istore 5, 2) := by decide +kernel
theorem d_L_law_1187 : decode b_L_law 1187 = .ok (.aload_n 2, 1) := by decide +kernel
theorem d_L_law_1188 : decode b_L_law 1188 = .ok (.aload_n 0, 1) := by decide +kernel
theorem d_L_law_1189 : decode b_L_law 1189 = .ok (.iload 4, 2) := by decide +kernel
theorem d_L_law_1191 : decode b_L_law 1191 = .ok (.iconst 1, 1) := by decide +kernel
theorem d_L_law_1192 : decode b_L_law 1192 = .ok (.iadd, 1) := by decide +kernel
theorem d_L_law_1193 : decode b_L_law 1193 = .ok (.iaload, 1) := by decide +kernel
theorem d_L_law_1194 : decode b_L_law 1194 = .ok (.aload_n 0, 1) := by decide +kernel
theorem d_L_law_1195 : decode b_L_law 1195 = .ok (.iload 4, 2) := by decide +kernel
theorem d_L_law_1197 : decode b_L_law 1197 = .ok (.iconst 2, 1) := by decide +kernel
theorem d_L_law_1198 : decode b_L_law 1198 = .ok (.iadd, 1) := by decide +kernel
theorem d_L_law_1199 : decode b_L_law 1199 = .ok (.iaload, 1) := by decide +kernel
theorem d_L_law_1200 : decode b_L_law 1200 = .ok (.invokevirtual 146, 3) := by decide +kernel
theorem d_L_law_1203 : decode b_L_law 1203 = .ok (.istore 6, 2) := by decide +kernel
theorem d_L_law_1205 : decode b_L_law 1205 = .ok (.aload_n 2, 1) := by decide +kernel
theorem d_L_law_1206 : decode b_L_law 1206 = .ok (.invokevirtual 87, 3) := by decide +kernel
theorem d_L_law_1209 : decode b_L_law 1209 = .ok (.iload 5, 2) := by decide +kernel
theorem d_L_law_1211 : decode b_L_law 1211 = .ok (.if_icmp .eq 5, 3) := by decide +kernel
theorem d_L_law_1214 : decode b_L_law 1214 = .ok (.iconst 0, 1) := by decide +kernel
theorem d_L_law_1215 : decode b_L_law 1215 = .ok (.ireturn, 1) := by decide +kernel
theorem d_L_law_1216 : decode b_L_law 1216 = .ok (.iload 5, 2) := by decide +kernel
theorem d_L_law_1218 : decode b_L_law 1218 = .ok (.ifCond .ne 22, 3) := by decide +kernel
theorem d_L_law_1221 : decode b_L_law 1221 = .ok (.aload_n 3, 1) := by decide +kernel
theorem d_L_law_1222 : decode b_L_law 1222 = .ok (.iconst 0, 1) := by decide +kernel
theorem d_L_law_1223 : decode b_L_law 1223 = .ok (.laload, 1) := by decide +kernel
theorem d_L_law_1224 : decode b_L_law 1224 = .ok (.iload 6, 2) := by decide +kernel
theorem d_L_law_1226 : decode b_L_law 1226 = .ok (.ifCond .eq 7, 3) := by decide +kernel
theorem d_L_law_1229 : decode b_L_law 1229 = .ok (.lconst 1, 1) := by decide +kernel
theorem d_L_law_1230 : decode b_L_law 1230 = .ok (.goto 4, 3) := by decide +kernel
theorem d_L_law_1233 : decode b_L_law 1233 = .ok (.lconst 0, 1) := by decide +kernel
theorem d_L_law_1234 : decode b_L_law 1234 = .ok (.lcmp, 1) := by decide +kernel
theorem d_L_law_1235 : decode b_L_law 1235 = .ok (.ifCond .eq 5, 3) := by decide +kernel
theorem d_L_law_1238 : decode b_L_law 1238 = .ok (.iconst 0, 1) := by decide +kernel
theorem d_L_law_1239 : decode b_L_law 1239 = .ok (.ireturn, 1) := by decide +kernel
theorem d_L_law_1240 : decode b_L_law 1240 = .ok (.goto 139, 3) := by decide +kernel
theorem d_L_law_1243 : decode b_L_law 1243 = .ok (.aload_n 1, 1) := by decide +kernel
theorem d_L_law_1244 : decode b_L_law 1244 = .ok (.aload_n 0, 1) := by decide +kernel
theorem d_L_law_1245 : decode b_L_law 1245 = .ok (.iload 4, 2) := by decide +kernel
theorem d_L_law_1247 : decode b_L_law 1247 = .ok (.iconst 1, 1) := by decide +kernel
theorem d_L_law_1248 : decode b_L_law 1248 = .ok (.iadd, 1) := by decide +kernel
theorem d_L_law_1249 : decode b_L_law 1249 = .ok (.iaload, 1) := by decide +kernel
theorem d_L_law_1250 : decode b_L_law 1250 = .ok (.aload_n 0, 1) := by decide +kernel
theorem d_L_law_1251 : decode b_L_law 1251 = .ok (.iload 4, 2) := by decide +kernel
theorem d_L_law_1253 : decode b_L_law 1253 = .ok (.iconst 2, 1) := by decide +kernel
theorem d_L_law_1254 : decode b_L_law 1254 = .ok (.iadd, 1) := by decide +kernel
theorem d_L_law_1255 : decode b_L_law 1255 = .ok (.iaload, 1) := by decide +kernel
theorem d_L_law_1256 : decode b_L_law 1256 = .ok (.aload_n 0, 1) := by decide +kernel
theorem d_L_law_1257 : decode b_L_law 1257 = .ok (.iload 4, 2) := by decide +kernel
theorem d_L_law_1259 : decode b_L_law 1259 = .ok (.iconst 3, 1) := by decide +kernel
theorem d_L_law_1260 : decode b_L_law 1260 = .ok (.iadd, 1) := by decide +kernel
theorem d_L_law_1261 : decode b_L_law 1261 = .ok (.iaload, 1) := by decide +kernel
theorem d_L_law_1262 : decode b_L_law 1262 = .ok (.aload_n 3, 1) := by decide +kernel
theorem d_L_law_1263 : decode b_L_law 1263 = .ok (.invokestatic 147, 3) := by decide +kernel
theorem d_L_law_1266 : decode b_L_law 1266 = .ok (.istore 5, 2) := by decide +kernel
theorem d_L_law_1268 : decode b_L_law 1268 = .ok (.aload_n 2, 1) := by decide +kernel
theorem d_L_law_1269 : decode b_L_law 1269 = .ok (.aload_n 0, 1) := by decide +kernel
theorem d_L_law_1270 : decode b_L_law 1270 = .ok (.iload 4, 2) := by decide +kernel
theorem d_L_law_1272 : decode b_L_law 1272 = .ok (.iconst 1, 1) := by decide +kernel
theorem d_L_law_1273 : decode b_L_law 1273 = .ok (.iadd, 1) := by decide +kernel
theorem d_L_law_1274 : decode b_L_law 1274 = .ok (.iaload, 1) := by decide +kernel
theorem d_L_law_1275 : decode b_L_law 1275 = .ok (.aload_n 0, 1) := by decide +kernel
theorem d_L_law_1276 : decode b_L_law 1276 = .ok (.iload 4, 2) := by decide +kernel
theorem d_L_law_1278 : decode b_L_law 1278 = .ok (.iconst 2, 1) := by decide +kernel
theorem d_L_law_1279 : decode b_L_law 1279 = .ok (.iadd, 1) := by decide +kernel
theorem d_L_law_1280 : decode b_L_law 1280 = .ok (.iaload, 1) := by decide +kernel
theorem d_L_law_1281 : decode b_L_law 1281 = .ok (.aload_n 0, 1) := by decide +kernel
theorem d_L_law_1282 : decode b_L_law 1282 = .ok (.iload 4, 2) := by decide +kernel
theorem d_L_law_1284 : decode b_L_law 1284 = .ok (.iconst 3, 1) := by decide +kernel
theorem d_L_law_1285 : decode b_L_law 1285 = .ok (.iadd, 1) := by decide +kernel
theorem d_L_law_1286 : decode b_L_law 1286 = .ok (.iaload, 1) := by decide +kernel
theorem d_L_law_1287 : decode b_L_law 1287 = .ok (.invokevirtual 150, 3) := by decide +kernel
theorem d_L_law_1290 : decode b_L_law 1290 = .ok (.istore 6, 2) := by decide +kernel
theorem d_L_law_1292 : decode b_L_law 1292 = .ok (.aload_n 2, 1) := by decide +kernel
theorem d_L_law_1293 : decode b_L_law 1293 = .ok (.invokevirtual 87, 3) := by decide +kernel
theorem d_L_law_1296 : decode b_L_law 1296 = .ok (.iload 5, 2) := by decide +kernel
theorem d_L_law_1298 : decode b_L_law 1298 = .ok (.if_icmp .eq 5, 3) := by decide +kernel
theorem d_L_law_1301 : decode b_L_law 1301 = .ok (.iconst 0, 1) := by decide +kernel
theorem d_L_law_1302 : decode b_L_law 1302 = .ok (.ireturn, 1) := by decide +kernel
theorem d_L_law_1303 : decode b_L_law 1303 = .ok (.iload 5, 2) := by decide +kernel
theorem d_L_law_1305 : decode b_L_law 1305 = .ok (.ifCond .ne 15, 3) := by decide +kernel
theorem d_L_law_1308 : decode b_L_law 1308 = .ok (.aload_n 3, 1) := by decide +kernel
theorem d_L_law_1309 : decode b_L_law 1309 = .ok (.iconst 0, 1) := by decide +kernel
theorem d_L_law_1310 : decode b_L_law 1310 = .ok (.laload, 1) := by decide +kernel
theorem d_L_law_1311 : decode b_L_law 1311 = .ok (.iload 6, 2) := by decide +kernel
theorem d_L_law_1313 : decode b_L_law 1313 = .ok (.i2l, 1) := by decide +kernel
theorem d_L_law_1314 : decode b_L_law 1314 = .ok (.lcmp, 1) := by decide +kernel
theorem d_L_law_1315 : decode b_L_law 1315 = .ok (.ifCond .eq 5, 3) := by decide +kernel
theorem d_L_law_1318 : decode b_L_law 1318 = .ok (.iconst 0, 1) := by decide +kernel
theorem d_L_law_1319 : decode b_L_law 1319 = .ok (.ireturn, 1) := by decide +kernel
theorem d_L_law_1320 : decode b_L_law 1320 = .ok (.goto 59, 3) := by decide +kernel
theorem d_L_law_1323 : decode b_L_law 1323 = .ok (.aload_n 1, 1) := by decide +kernel
theorem d_L_law_1324 : decode b_L_law 1324 = .ok (.aload_n 0, 1) := by decide +kernel
theorem d_L_law_1325 : decode b_L_law 1325 = .ok (.iload 4, 2) := by decide +kernel
theorem d_L_law_1327 : decode b_L_law 1327 = .ok (.iconst 1, 1) := by decide +kernel
theorem d_L_law_1328 : decode b_L_law 1328 = .ok (.iadd, 1) := by decide +kernel
theorem d_L_law_1329 : decode b_L_law 1329 = .ok (.iaload, 1) := by decide +kernel
theorem d_L_law_1330 : decode b_L_law 1330 = .ok (.aload_n 3, 1) := by decide +kernel
theorem d_L_law_1331 : decode b_L_law 1331 = .ok (.invokestatic 151, 3) := by decide +kernel
theorem d_L_law_1334 : decode b_L_law 1334 = .ok (.istore 5, 2) := by decide +kernel
theorem d_L_law_1336 : decode b_L_law 1336 = .ok (.aload_n 2, 1) := by decide +kernel
theorem d_L_law_1337 : decode b_L_law 1337 = .ok (.aload_n 0, 1) := by decide +kernel
theorem d_L_law_1338 : decode b_L_law 1338 = .ok (.iload 4, 2) := by decide +kernel
theorem d_L_law_1340 : decode b_L_law 1340 = .ok (.iconst 1, 1) := by decide +kernel
theorem d_L_law_1341 : decode b_L_law 1341 = .ok (.iadd, 1) := by decide +kernel
theorem d_L_law_1342 : decode b_L_law 1342 = .ok (.iaload, 1) := by decide +kernel
theorem d_L_law_1343 : decode b_L_law 1343 = .ok (.invokevirtual 153, 3) := by decide +kernel
theorem d_L_law_1346 : decode b_L_law 1346 = .ok (.istore 6, 2) := by decide +kernel
theorem d_L_law_1348 : decode b_L_law 1348 = .ok (.aload_n 2, 1) := by decide +kernel
theorem d_L_law_1349 : decode b_L_law 1349 = .ok (.invokevirtual 87, 3) := by decide +kernel
theorem d_L_law_1352 : decode b_L_law 1352 = .ok (.iload 5, 2) := by decide +kernel
theorem d_L_law_1354 : decode b_L_law 1354 = .ok (.if_icmp .eq 5, 3) := by decide +kernel
theorem d_L_law_1357 : decode b_L_law 1357 = .ok (.iconst 0, 1) := by decide +kernel
theorem d_L_law_1358 : decode b_L_law 1358 = .ok (.ireturn, 1) := by decide +kernel
theorem d_L_law_1359 : decode b_L_law 1359 = .ok (.iload 5, 2) := by decide +kernel
theorem d_L_law_1361 : decode b_L_law 1361 = .ok (.ifCond .ne 15, 3) := by decide +kernel
theorem d_L_law_1364 : decode b_L_law 1364 = .ok (.aload_n 3, 1) := by decide +kernel
theorem d_L_law_1365 : decode b_L_law 1365 = .ok (.iconst 0, 1) := by decide +kernel
theorem d_L_law_1366 : decode b_L_law 1366 = .ok (.laload, 1) := by decide +kernel
theorem d_L_law_1367 : decode b_L_law 1367 = .ok (.iload 6, 2) := by decide +kernel
theorem d_L_law_1369 : decode b_L_law 1369 = .ok (.i2l, 1) := by decide +kernel
theorem d_L_law_1370 : decode b_L_law 1370 = .ok (.lcmp, 1) := by decide +kernel
theorem d_L_law_1371 : decode b_L_law 1371 = .ok (.ifCond .eq 5, 3) := by decide +kernel
theorem d_L_law_1374 : decode b_L_law 1374 = .ok (.iconst 0, 1) := by decide +kernel
theorem d_L_law_1375 : decode b_L_law 1375 = .ok (.ireturn, 1) := by decide +kernel
theorem d_L_law_1376 : decode b_L_law 1376 = .ok (.goto 3, 3) := by decide +kernel
theorem d_L_law_1379 : decode b_L_law 1379 = .ok (.iinc 4 5, 3) := by decide +kernel
theorem d_L_law_1382 : decode b_L_law 1382 = .ok (.goto (-1359), 3) := by decide +kernel
theorem d_L_law_1385 : decode b_L_law 1385 = .ok (.iconst 1, 1) := by decide +kernel
theorem d_L_law_1386 : decode b_L_law 1386 = .ok (.ireturn, 1) := by decide +kernel
